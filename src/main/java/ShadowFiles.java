/**
 * A file of rows in pages that survives a power failure at any byte: changed pages go to free
 * places, and the two tables take turns, so that the last good table always names whole rows.
 */
public final class ShadowFiles {
    private static final int ROWS = 12;
    private static final int MONTHS = 12;
    private static final int TAPE_MOST = 60;

    private static final int PLACES = 24;
    private static final int SLOW_PLACES = 16;
    private static final int PLACE_SIZE = 32;
    private static final int LINK = 0;
    private static final int HELD = 1;
    private static final int MONTH = 2;
    private static final int DATA = 3;
    private static final int HELD_MOST = 25;
    private static final int CHAIN_MOST = 3;

    private static final int TABLES = 2;
    private static final int TABLE_SIZE = 40;
    private static final int NUMBER = 0;
    private static final int NUMBER_MOST = 250;
    private static final int FIRST_IN_FILE = 1;
    private static final int FIRST_IN_SLOW = 13;

    private static final int SUM_SIZE = 4;
    private static final int SUM_TURN = 23;
    private static final int SUM_FACTOR = 0x9E3779B1;

    private static final int NONE = -1;
    private static final int FAILED = -1;
    private static final int CUT_MOST = 200;

    /** Blocks of one size that end in a sum; no index is ever outside: there is 0, and nothing can be set. */
    private static final class Blocks {
        final int[] cells;
        final int size;

        Blocks(int[] cells, int size) {
            this.cells = cells;
            this.size = size;
        }

        boolean hasCell(int i) {
            return i >= 0 && i < cells.length;
        }

        boolean hasBlock(int block) {
            return block >= 0 && block < cells.length && hasCell(block * size + size - 1);
        }

        int get(int block, int i) {
            int cell = block * size + i;
            return cell >= 0 && cell < cells.length ? cells[cell] : 0;
        }

        void set(int block, int i, int value) {
            int cell = block * size + i;
            if (cell >= 0 && cell < cells.length) {
                cells[cell] = value & 0xFF;
            }
        }

        int sumOf(int block, int length) {
            int from = block * size;
            if (from < 0 || from > cells.length - length) {
                return 0;
            }
            int sum = 0;
            for (int i = 0; i < length; i++) {
                int mixed = sum ^ cells[from + i];
                sum = ((mixed << SUM_TURN) | (mixed >>> (32 - SUM_TURN))) * SUM_FACTOR;
            }
            return sum;
        }

        boolean sumIsRight(int block) {
            int held = 0;
            for (int i = size - SUM_SIZE; i < size; i++) {
                held = (held << 8) | get(block, i);
            }
            return held == sumOf(block, size - SUM_SIZE);
        }
    }

    /** What was found on the way through one chain; used again for the next one. */
    private static final class Chain {
        final int[] places;
        int count;
        boolean broken;
        int held;
        int month;

        Chain() {
            places = new int[CHAIN_MOST];
            broken = true;
        }

        void follow(Blocks file, int first) {
            count = 0;
            broken = true;
            held = 0;
            month = file.get(first, MONTH);
            int place = first;
            for (int k = 0; k < CHAIN_MOST; k++) {
                if (!file.hasBlock(place) || wentThrough(place)) {
                    return;
                }
                places[k] = place;
                count = k + 1;
                if (!isRight(file, place)) {
                    return;
                }
                held += file.get(place, HELD);
                int link = file.get(place, LINK);
                if (link == 0) {
                    broken = false;
                    return;
                }
                place = link - 1;
            }
        }

        private boolean wentThrough(int place) {
            for (int k = 0; k < count && k < CHAIN_MOST; k++) {
                if (places[k] == place) {
                    return true;
                }
            }
            return false;
        }

        private boolean isRight(Blocks file, int place) {
            int bytes = file.get(place, HELD);
            return bytes >= 1 && bytes <= HELD_MOST
                    && file.get(place, MONTH) == month
                    && file.sumIsRight(place);
        }

        int placeAt(int k) {
            return k >= 0 && k < count && k < CHAIN_MOST ? places[k] : NONE;
        }

        int bytes() {
            return broken ? 0 : held;
        }

        int monthOrNone() {
            return broken ? NONE : month;
        }

        int dataAt(Blocks file, int i) {
            int left = i;
            for (int k = 0; k < count; k++) {
                int place = placeAt(k);
                int here = file.get(place, HELD);
                if (left < here) {
                    return file.get(place, DATA + left);
                }
                left -= here;
            }
            return 0;
        }
    }

    private final Blocks file;
    private final Blocks slowFile;
    private final Blocks tables;
    /** The place or table that is about to be written: block 0 of its own. */
    private final Blocks nextPlace;
    private final Blocks nextTable;
    private final Chain chain;
    /** A second one, since a row that is moved is still being read while places are marked. */
    private final Chain markChain;
    private final boolean[] used;
    private final int[] taken;
    private final int[] tape;
    private int tapeLength;
    private int cutBehind;
    private int bytesLeft;
    private boolean powerFails;
    private boolean shut;

    public ShadowFiles() {
        file = new Blocks(new int[PLACES * PLACE_SIZE], PLACE_SIZE);
        slowFile = new Blocks(new int[SLOW_PLACES * PLACE_SIZE], PLACE_SIZE);
        tables = new Blocks(new int[TABLES * TABLE_SIZE], TABLE_SIZE);
        nextPlace = new Blocks(new int[PLACE_SIZE], PLACE_SIZE);
        nextTable = new Blocks(new int[TABLE_SIZE], TABLE_SIZE);
        chain = new Chain();
        markChain = new Chain();
        used = new boolean[PLACES];
        taken = new int[CHAIN_MOST];
        tape = new int[TAPE_MOST];
        cutBehind = NONE;
    }

    public int feed(long bytes, int n) throws IllegalArgumentException, UnsupportedOperationException {
        if (n < 1 || n > 8) {
            throw new IllegalArgumentException("1 to 8 bytes are fed at once");
        }
        if (tapeLength + n > TAPE_MOST) {
            throw new UnsupportedOperationException("the tape holds 60 bytes");
        }
        for (int k = n - 1; k >= 0; k--) {
            addToTape((int) (bytes >>> (8 * k)) & 0xFF);
        }
        return tapeLength;
    }

    public int write(int row, int month) throws IndexOutOfBoundsException, IllegalStateException,
            IllegalArgumentException, UnsupportedOperationException {
        if (!isRow(row)) {
            throw new IndexOutOfBoundsException("no such row");
        }
        if (shut || tapeLength == 0) {
            throw new IllegalStateException("the file is shut or the tape is empty");
        }
        if (!isMonth(month)) {
            throw new IllegalArgumentException("no such month");
        }
        int n = (tapeLength + HELD_MOST - 1) / HELD_MOST;
        if (!takePlaces(false, n)) {
            throw new UnsupportedOperationException("not so many free places");
        }
        beginWriting(n);
        for (int k = 0; k < n; k++) {
            preparePlaceFromTape(k, n, month);
            putPlace(file, takenAt(k));
        }
        tapeLength = 0;
        putTable(row, takenAt(0) + 1, 0);
        return endWriting() ? n : FAILED;
    }

    public int remove(int row) throws IndexOutOfBoundsException, IllegalStateException {
        if (!isRow(row)) {
            throw new IndexOutOfBoundsException("no such row");
        }
        if (shut || !isThere(row)) {
            throw new IllegalStateException("the file is shut or the row is not there");
        }
        beginWriting(0);
        putTable(row, 0, 0);
        return endWriting() ? 0 : FAILED;
    }

    public int move(int month) throws IllegalStateException, IllegalArgumentException,
            UnsupportedOperationException {
        if (shut) {
            throw new IllegalStateException("the file is shut");
        }
        if (!isMonth(month)) {
            throw new IllegalArgumentException("no such month");
        }
        int moved = 0;
        for (int row = 0; row < ROWS; row++) {
            if (!followToMove(row, month)) {
                continue;
            }
            if (!takePlaces(true, chain.count)) {
                throw new UnsupportedOperationException("no room in the slow file");
            }
            if (!moveFollowed(row)) {
                return FAILED;
            }
            moved++;
        }
        return moved;
    }

    public void cut(int bytes) throws IllegalArgumentException {
        if (bytes < NONE || bytes > CUT_MOST) {
            throw new IllegalArgumentException("a cut is behind 0 to 200 bytes, or -1");
        }
        cutBehind = bytes;
    }

    public int open() {
        shut = false;
        int there = 0;
        for (int row = 0; row < ROWS; row++) {
            if (isThere(row)) {
                there++;
            }
        }
        return there;
    }

    public int row(int row, int i) throws IndexOutOfBoundsException, IllegalStateException {
        if (!isRow(row) || i < -1) {
            throw new IndexOutOfBoundsException("no such row or byte");
        }
        if (shut || !isThere(row)) {
            throw new IllegalStateException("the file is shut or the row is not there");
        }
        followRow(row);
        if (i == -1) {
            return chain.bytes();
        }
        if (i >= chain.bytes()) {
            throw new IndexOutOfBoundsException("the row has no such byte");
        }
        return chain.dataAt(placesOf(isSlow(row)), i);
    }

    public int at(int row, int what) throws IndexOutOfBoundsException, IllegalStateException {
        if (!isRow(row) || what < 0 || what > 3) {
            throw new IndexOutOfBoundsException("no such row or what");
        }
        if (shut || (what != 0 && !isThere(row))) {
            throw new IllegalStateException("the file is shut or the row is not there");
        }
        if (what == 0) {
            return isThere(row) ? 1 : 0;
        }
        if (what == 1) {
            return isSlow(row) ? 1 : 0;
        }
        followRow(row);
        return what == 2 ? chain.monthOrNone() : chain.count;
    }

    public int told(int what) throws IndexOutOfBoundsException, IllegalStateException {
        if (what < 0 || what > 4) {
            throw new IndexOutOfBoundsException("no such what");
        }
        if (shut && what != 4) {
            throw new IllegalStateException("the file is shut");
        }
        switch (what) {
            case 0:
                return countFree(false);
            case 1:
                return countFree(true);
            case 2:
                return numberOf(countingTable());
            case 3:
                return countingTable();
            default:
                return tapeLength;
        }
    }

    public int wrong(int what, int k) throws IndexOutOfBoundsException {
        if (what < 0 || what > 2 || k < 0) {
            throw new IndexOutOfBoundsException("no such what, or k is below 0");
        }
        return what == 2 ? wrongTable(k) : wrongPlace(what == 1, k);
    }

    public int byteAt(int what, int i) throws IndexOutOfBoundsException {
        if (!hasByte(what, i)) {
            throw new IndexOutOfBoundsException("no such byte");
        }
        return partOf(what).get(0, i);
    }

    public void poke(int what, int i, int mask) throws IndexOutOfBoundsException, IllegalArgumentException {
        if (!hasByte(what, i)) {
            throw new IndexOutOfBoundsException("no such byte");
        }
        if (mask < 1 || mask > 255) {
            throw new IllegalArgumentException("a mask is 1 to 255");
        }
        Blocks part = partOf(what);
        part.set(0, i, part.get(0, i) ^ mask);
        shut = true;
    }

    private static boolean isRow(int row) {
        return row >= 0 && row < ROWS;
    }

    private static boolean isMonth(int month) {
        return month >= 0 && month < MONTHS;
    }

    private Blocks partOf(int what) {
        if (what == 0) {
            return file;
        }
        return what == 1 ? slowFile : tables;
    }

    private boolean hasByte(int what, int i) {
        return what >= 0 && what <= 2 && partOf(what).hasCell(i);
    }

    private Blocks placesOf(boolean slow) {
        return slow ? slowFile : file;
    }

    private void addToTape(int value) {
        if (tapeLength >= 0 && tapeLength < TAPE_MOST) {
            tape[tapeLength] = value;
            tapeLength++;
        }
    }

    // The tables

    private boolean isGood(int table) {
        int number = tables.get(table, NUMBER);
        return number >= 1 && number <= NUMBER_MOST && tables.sumIsRight(table);
    }

    /** By the bytes as they stand, never kept: a poke or a cut may change which one counts. */
    private int countingTable() {
        boolean firstIsGood = isGood(0);
        boolean secondIsGood = isGood(1);
        if (firstIsGood && secondIsGood) {
            return numberOf(1) == numberBehind(numberOf(0)) ? 1 : 0;
        }
        if (firstIsGood) {
            return 0;
        }
        return secondIsGood ? 1 : NONE;
    }

    private int numberOf(int table) {
        return table == NONE ? 0 : tables.get(table, NUMBER);
    }

    private static int numberBehind(int number) {
        return number >= NUMBER_MOST ? 1 : number + 1;
    }

    /** The table's byte for the row: its first place and 1; 0 when there is none. */
    private int firstOf(int table, int row, boolean slow) {
        return table == NONE ? 0 : tables.get(table, (slow ? FIRST_IN_SLOW : FIRST_IN_FILE) + row);
    }

    /** As firstOf, but 0 for the file when the row is slow: it has one chain, the table may name two. */
    private int chainStart(int table, int row, boolean slow) {
        return !slow && firstOf(table, row, true) != 0 ? 0 : firstOf(table, row, slow);
    }

    private boolean isThere(int row) {
        int table = countingTable();
        return firstOf(table, row, false) != 0 || firstOf(table, row, true) != 0;
    }

    private boolean isSlow(int row) {
        return firstOf(countingTable(), row, true) != 0;
    }

    private void followRow(int row) {
        int table = countingTable();
        boolean slow = firstOf(table, row, true) != 0;
        chain.follow(placesOf(slow), firstOf(table, row, slow) - 1);
    }

    // Free places

    private void markUsed(boolean slow) {
        for (int place = 0; place < PLACES; place++) {
            used[place] = false;
        }
        int table = countingTable();
        for (int row = 0; row < ROWS; row++) {
            int first = chainStart(table, row, slow);
            if (first != 0) {
                markChain.follow(placesOf(slow), first - 1);
                markFollowed();
            }
        }
    }

    private void markFollowed() {
        for (int k = 0; k < markChain.count; k++) {
            int place = markChain.placeAt(k);
            if (place >= 0 && place < PLACES) {
                used[place] = true;
            }
        }
    }

    private static int countPlaces(boolean slow) {
        return slow ? SLOW_PLACES : PLACES;
    }

    private int countFree(boolean slow) {
        markUsed(slow);
        int free = 0;
        for (int place = 0; place < countPlaces(slow) && place < PLACES; place++) {
            if (!used[place]) {
                free++;
            }
        }
        return free;
    }

    private boolean takePlaces(boolean slow, int n) {
        markUsed(slow);
        int found = 0;
        for (int place = 0; place < countPlaces(slow) && place < PLACES; place++) {
            if (!used[place] && found < n && found < CHAIN_MOST) {
                taken[found] = place;
                found++;
            }
        }
        return found == n;
    }

    private int takenAt(int k) {
        return k >= 0 && k < CHAIN_MOST ? taken[k] : NONE;
    }

    // Wrong sums

    private int wrongPlace(boolean slow, int k) {
        markUsed(slow);
        Blocks places = placesOf(slow);
        int seen = 0;
        for (int place = 0; place < countPlaces(slow) && place < PLACES; place++) {
            if (used[place] && !places.sumIsRight(place)) {
                if (seen == k) {
                    return place;
                }
                seen++;
            }
        }
        return NONE;
    }

    /** A table that is all 0 needs no test of its own: 0 is its right sum. */
    private int wrongTable(int k) {
        int seen = 0;
        for (int table = 0; table < TABLES; table++) {
            if (!tables.sumIsRight(table)) {
                if (seen == k) {
                    return table;
                }
                seen++;
            }
        }
        return NONE;
    }

    // Writing

    private void beginWriting(int places) {
        int bytes = places * PLACE_SIZE + TABLE_SIZE;
        powerFails = cutBehind != NONE && bytes > cutBehind;
        bytesLeft = powerFails ? cutBehind : bytes;
        cutBehind = NONE;
    }

    /** Whether all of it came into the file. */
    private boolean endWriting() {
        if (powerFails) {
            shut = true;
        }
        return !powerFails;
    }

    private void putBlock(Blocks from, Blocks to, int block) {
        for (int i = 0; i < from.size && bytesLeft > 0; i++) {
            to.set(block, i, from.get(0, i));
            bytesLeft--;
        }
    }

    private static void setSum(Blocks prepared) {
        int length = prepared.size - SUM_SIZE;
        int sum = prepared.sumOf(0, length);
        for (int i = 0; i < SUM_SIZE; i++) {
            prepared.set(0, length + i, sum >>> (8 * (SUM_SIZE - 1 - i)));
        }
    }

    private int linkBehind(int k, int n) {
        return k + 1 < n ? takenAt(k + 1) + 1 : 0;
    }

    private void preparePlaceFromTape(int k, int n, int month) {
        int from = k * HELD_MOST;
        int held = Math.min(HELD_MOST, tapeLength - from);
        nextPlace.set(0, LINK, linkBehind(k, n));
        nextPlace.set(0, HELD, held);
        nextPlace.set(0, MONTH, month);
        for (int i = 0; i < HELD_MOST; i++) {
            nextPlace.set(0, DATA + i, i < held ? tapeAt(from + i) : 0);
        }
    }

    private int tapeAt(int i) {
        return i >= 0 && i < tapeLength && i < TAPE_MOST ? tape[i] : 0;
    }

    private void preparePlaceFromChain(int k) {
        nextPlace.set(0, LINK, linkBehind(k, chain.count));
        for (int i = HELD; i < PLACE_SIZE - SUM_SIZE; i++) {
            nextPlace.set(0, i, file.get(chain.placeAt(k), i));
        }
    }

    private void putPlace(Blocks to, int place) {
        setSum(nextPlace);
        putBlock(nextPlace, to, place);
    }

    private void putTable(int row, int first, int firstInSlow) {
        int counting = countingTable();
        nextTable.set(0, NUMBER, numberBehind(numberOf(counting)));
        for (int r = 0; r < ROWS; r++) {
            nextTable.set(0, FIRST_IN_FILE + r, r == row ? first : firstOf(counting, r, false));
            nextTable.set(0, FIRST_IN_SLOW + r, r == row ? firstInSlow : firstOf(counting, r, true));
        }
        setSum(nextTable);
        putBlock(nextTable, tables, counting == 0 ? 1 : 0);
    }

    // Moving

    /** Whether the row is one that a move of the month takes; its chain is followed then. */
    private boolean followToMove(int row, int month) {
        if (!isThere(row) || isSlow(row)) {
            return false;
        }
        followRow(row);
        return chain.monthOrNone() == month;
    }

    private boolean moveFollowed(int row) {
        beginWriting(chain.count);
        for (int k = 0; k < chain.count; k++) {
            preparePlaceFromChain(k);
            putPlace(slowFile, takenAt(k));
        }
        putTable(row, 0, takenAt(0) + 1);
        return endWriting();
    }
}
