import java.util.Arrays;

/**
 * For each promise of the document: ordinary calls, the edges that it names, and wrong inputs.
 * Where all bytes of a file are read, an object has more than the 512 calls that are promised: this
 * class counts none.
 */
public final class PromiseTest {
    private static final String INDEX = "IndexOutOfBoundsException";
    private static final String TURN = "IllegalStateException";
    private static final String RANGE = "IllegalArgumentException";
    private static final String MEANING = "UnsupportedOperationException";

    private static int failures = 0;
    private static int checks = 0;

    private interface Call {
        int answer();
    }

    public static void main(String[] args) {
        promise1New();
        promise2Feed();
        promise3Write();
        promise3Refused();
        promise3Layout();
        promise3Room();
        promise3Numbers();
        promise4Remove();
        promise5Move();
        promise5Layout();
        promise5Room();
        promise5Broken();
        promise6Cut();
        promise6CutEveryByte();
        promise6CutMove();
        promise7Open();
        promise7Tables();
        promise8Row();
        promise8Chains();
        promise9At();
        promise10Told();
        promise11Wrong();
        rowNamedInBothFiles();
        rowNamedInBothFilesSharesAPlace();
        promise12ByteAt();
        promise13Poke();
        refusedChangesNothing();
        System.out.println(checks + " checks, " + failures + " failed");
        if (failures != 0) {
            System.exit(1);
        }
    }

    // Promise 1

    private static void promise1New() {
        ShadowFiles x = new ShadowFiles();
        for (int what = 0; what < 3; what++) {
            for (int i = 0; i < size(what); i++) {
                if (x.byteAt(what, i) != 0) {
                    due("P1 byte " + what + " " + i, x.byteAt(what, i), 0);
                }
            }
        }
        toldIs("P1 empty", x, 24, 16, 0, -1, 0);
        for (int row = 0; row < 12; row++) {
            due("P1 no row", x.at(row, 0), 0);
        }
        ShadowFiles other = new ShadowFiles();
        put(x, 0, 0, 5);
        due("P1 objects share nothing", other.told(2), 0);
    }

    // Promise 2

    private static void promise2Feed() {
        ShadowFiles x = new ShadowFiles();
        throwsIt("P2 n 0", RANGE, () -> x.feed(1, 0));
        throwsIt("P2 n 9", RANGE, () -> x.feed(1, 9));
        throwsIt("P2 n -1", RANGE, () -> x.feed(1, -1));
        throwsIt("P2 n min", RANGE, () -> x.feed(1, Integer.MIN_VALUE));
        throwsIt("P2 n max", RANGE, () -> x.feed(1, Integer.MAX_VALUE));
        due("P2 first", x.feed(0x1122334455667788L, 3), 3);
        due("P2 second", x.feed(0xF0E1D2C3B4A59687L, 8), 11);
        x.write(0, 0);
        int[] want = {0x66, 0x77, 0x88, 0xF0, 0xE1, 0xD2, 0xC3, 0xB4, 0xA5, 0x96, 0x87};
        rowIs("P2 order", x, 0, want);

        for (int k = 1; k <= 7; k++) {
            due("P2 more", x.feed(k, 8), 8 * k);
        }
        throwsIt("P2 61", MEANING, () -> x.feed(0, 5));
        throwsIt("P2 range ahead of meaning", RANGE, () -> x.feed(0, 9));
        due("P2 60", x.feed(0, 4), 60);
        throwsIt("P2 60 and 1", MEANING, () -> x.feed(0, 1));
        x.poke(0, 700, 1);
        throwsIt("P2 full and shut", MEANING, () -> x.feed(0, 1));
        due("P2 stays", x.told(4), 60);

        ShadowFiles y = new ShadowFiles();
        y.poke(0, 0, 1);
        due("P2 while it is shut", y.feed(-1, 8), 8);
    }

    // Promise 3

    private static void promise3Write() {
        int[] lengths = {1, 24, 25, 26, 49, 50, 51, 59, 60};
        int[] places = {1, 1, 1, 2, 2, 2, 3, 3, 3};
        for (int k = 0; k < lengths.length; k++) {
            ShadowFiles x = new ShadowFiles();
            int[] bytes = pattern(lengths[k], 7 * k);
            tape(x, bytes);
            due("P3 places", x.write(11, 11), places[k]);
            due("P3 tape used up", x.told(4), 0);
            rowIs("P3 bytes", x, 11, bytes);
            due("P3 month", x.at(11, 2), 11);
            due("P3 chain", x.at(11, 3), places[k]);
            due("P3 free", x.told(0), 24 - places[k]);
        }
        ShadowFiles x = new ShadowFiles();
        put(x, 3, 2, 60);
        put(x, 3, 4, 10);
        due("P3 again: bytes", x.row(3, -1), 10);
        due("P3 again: month", x.at(3, 2), 4);
        due("P3 again: free", x.told(0), 23);
        due("P3 again: behind the old ones", x.byteAt(2, 40 + 1 + 3), 4);
        put(x, 4, 4, 30);
        due("P3 lowest free first", x.byteAt(2, 1 + 4), 1);
        put(x, 5, 4, 30);
        due("P3 round the used ones", x.byteAt(2, 40 + 1 + 5), 3);
        due("P3 round the used ones: link", x.byteAt(0, 2 * 32), 5);
    }

    private static void promise3Refused() {
        ShadowFiles x = new ShadowFiles();
        throwsIt("P3 row -1", INDEX, () -> x.write(-1, 0));
        throwsIt("P3 row 12", INDEX, () -> x.write(12, 0));
        throwsIt("P3 row min", INDEX, () -> x.write(Integer.MIN_VALUE, 99));
        throwsIt("P3 row max", INDEX, () -> x.write(Integer.MAX_VALUE, 99));
        throwsIt("P3 tape empty", TURN, () -> x.write(0, 0));
        throwsIt("P3 turn ahead of range", TURN, () -> x.write(0, 12));
        x.feed(65, 1);
        throwsIt("P3 month -1", RANGE, () -> x.write(0, -1));
        throwsIt("P3 month 12", RANGE, () -> x.write(0, 12));
        throwsIt("P3 month max", RANGE, () -> x.write(0, Integer.MAX_VALUE));
        throwsIt("P3 index ahead of range", INDEX, () -> x.write(12, 12));
        x.poke(0, 0, 1);
        throwsIt("P3 shut", TURN, () -> x.write(0, 0));
        throwsIt("P3 shut ahead of range", TURN, () -> x.write(0, -1));
        throwsIt("P3 index ahead of shut", INDEX, () -> x.write(12, 0));
        due("P3 tape stays", x.told(4), 1);
        x.open();
        due("P3 month 0 and row 0", x.write(0, 0), 1);
    }

    private static void promise3Layout() {
        ShadowFiles x = new ShadowFiles();
        put(x, 0, 9, 3);
        int[] bytes = pattern(57, 100);
        tape(x, bytes);
        x.write(7, 6);
        int[] want = new int[768];
        place(want, 0, 0, 9, pattern(3, 0), 0, 3);
        place(want, 1, 3, 6, bytes, 0, 25);
        place(want, 2, 4, 6, bytes, 25, 25);
        place(want, 3, 0, 6, bytes, 50, 7);
        partIs("P3 places", x, 0, want);
        int[] first = new int[40];
        first[0] = 1;
        first[1] = 1;
        sum(first, 0, 40);
        int[] second = first.clone();
        second[0] = 2;
        second[1 + 7] = 2;
        sum(second, 0, 40);
        int[] both = Arrays.copyOf(first, 80);
        System.arraycopy(second, 0, both, 40, 40);
        partIs("P3 tables", x, 2, both);
        partIs("P3 slow file", x, 1, new int[512]);
    }

    private static void promise3Room() {
        ShadowFiles x = new ShadowFiles();
        for (int row = 0; row < 8; row++) {
            put(x, row, 1, 60);
        }
        due("P3 full", x.told(0), 0);
        tape(x, pattern(1, 0));
        throwsIt("P3 no room", MEANING, () -> x.write(8, 0));
        throwsIt("P3 no room for a new one of its own", MEANING, () -> x.write(0, 0));
        throwsIt("P3 range ahead of meaning", RANGE, () -> x.write(0, 12));
        due("P3 the tape stays", x.told(4), 1);
        due("P3 the number stays", x.told(2), 8);
        x.remove(3);
        due("P3 three are free", x.told(0), 3);
        due("P3 room again", x.write(3, 0), 1);
        tape(x, pattern(51, 0));
        throwsIt("P3 two for three", MEANING, () -> x.write(3, 0));
        due("P3 the tape of 51 stays", x.told(4), 51);
        due("P3 the old row stays", x.row(3, -1), 1);
        x.remove(3);
        due("P3 three for three", x.write(3, 0), 3);
        due("P3 full again", x.told(0), 0);
    }

    private static void promise3Numbers() {
        ShadowFiles y = new ShadowFiles();
        for (int n = 1; n <= 100; n++) {
            writeNumbered(y, n);
            due("P3 number", y.told(2), n);
            due("P3 tables by turns", y.told(3), n % 2 == 1 ? 0 : 1);
        }
        ShadowFiles x = new ShadowFiles();
        for (int n = 1; n <= 250; n++) {
            writeNumbered(x, n);
        }
        due("P3 number 250", x.told(2), 250);
        due("P3 table of 250", x.told(3), 1);
        x.feed(77, 1);
        x.write(5, 3);
        due("P3 1 behind 250", x.told(2), 1);
        due("P3 table of 1", x.told(3), 0);
        due("P3 row by 1", x.row(5, 0), 77);
        due("P3 other rows by 1", x.row(10, 0), 250);
        due("P3 opened by 1", x.open(), 12);
        x.remove(5);
        due("P3 2 behind 1", x.told(2), 2);
        due("P3 2 counts", x.told(3), 1);
    }

    /** Two calls alone, so that number 250 is behind before the 512 calls of an object are. */
    private static void writeNumbered(ShadowFiles x, int n) {
        x.feed(n, 1);
        x.write(n % 12, 0);
    }

    // Promise 4

    private static void promise4Remove() {
        ShadowFiles x = new ShadowFiles();
        throwsIt("P4 row -1", INDEX, () -> x.remove(-1));
        throwsIt("P4 row 12", INDEX, () -> x.remove(12));
        throwsIt("P4 not there", TURN, () -> x.remove(0));
        put(x, 0, 1, 30);
        put(x, 11, 1, 30);
        int[] places = part(x, 0);
        due("P4 removed", x.remove(0), 0);
        due("P4 gone", x.at(0, 0), 0);
        due("P4 the other one", x.row(11, -1), 30);
        due("P4 free", x.told(0), 22);
        due("P4 number", x.told(2), 3);
        due("P4 table", x.told(3), 0);
        partIs("P4 no place is written", x, 0, places);
        throwsIt("P4 twice", TURN, () -> x.remove(0));
        due("P4 opened", x.open(), 1);

        x.move(1);
        due("P4 slow one", x.remove(11), 0);
        due("P4 slow one gone", x.at(11, 0), 0);
        due("P4 slow free", x.told(1), 16);

        put(x, 2, 1, 30);
        x.poke(0, 5, 1);
        throwsIt("P4 shut", TURN, () -> x.remove(2));
        throwsIt("P4 index ahead of shut", INDEX, () -> x.remove(12));
        x.open();
        due("P4 broken one", x.remove(2), 0);
        due("P4 broken one gone", x.at(2, 0), 0);

        put(x, 2, 1, 30);
        x.cut(39);
        due("P4 power", x.remove(2), -1);
        throwsIt("P4 shut by power", TURN, () -> x.remove(2));
        due("P4 still there", x.open(), 1);
        x.cut(40);
        due("P4 whole", x.remove(2), 0);
        due("P4 none left", x.open(), 0);
    }

    // Promise 5

    private static void promise5Move() {
        ShadowFiles x = new ShadowFiles();
        throwsIt("P5 month -1", RANGE, () -> x.move(-1));
        throwsIt("P5 month 12", RANGE, () -> x.move(12));
        due("P5 nothing", x.move(0), 0);
        due("P5 nothing is written", x.told(2), 0);
        put(x, 8, 4, 60);
        put(x, 1, 5, 60);
        put(x, 3, 4, 26);
        due("P5 two", x.move(4), 2);
        due("P5 number: a write for each", x.told(2), 5);
        due("P5 slow 3", x.at(3, 1), 1);
        due("P5 slow 8", x.at(8, 1), 1);
        due("P5 not slow 1", x.at(1, 1), 0);
        due("P5 month", x.at(8, 2), 4);
        rowIs("P5 bytes 8", x, 8, pattern(60, 8));
        rowIs("P5 bytes 3", x, 3, pattern(26, 3));
        due("P5 free", x.told(0), 21);
        due("P5 slow free", x.told(1), 11);
        due("P5 again", x.move(4), 0);
        due("P5 again writes nothing", x.told(2), 5);
        put(x, 8, 4, 5);
        due("P5 written again is not slow", x.at(8, 1), 0);
        due("P5 written again", x.row(8, -1), 5);
        due("P5 written again: slow free", x.told(1), 14);
        put(x, 8, 6, 5);
        due("P5 of another month", x.move(4), 0);
        x.poke(0, 760, 1);
        throwsIt("P5 shut", TURN, () -> x.move(5));
        throwsIt("P5 shut ahead of range", TURN, () -> x.move(12));
        x.open();
        due("P5 one", x.move(5), 1);
    }

    private static void promise5Layout() {
        ShadowFiles x = new ShadowFiles();
        put(x, 9, 0, 1);
        put(x, 4, 7, 51);
        put(x, 2, 7, 30);
        int[] places = part(x, 0);
        due("P5 by numbers", x.move(7), 2);
        partIs("P5 the file stays", x, 0, places);
        int[] want = new int[512];
        place(want, 0, 2, 7, pattern(30, 2), 0, 25);
        place(want, 1, 0, 7, pattern(30, 2), 25, 5);
        place(want, 2, 4, 7, pattern(51, 4), 0, 25);
        place(want, 3, 5, 7, pattern(51, 4), 25, 25);
        place(want, 4, 0, 7, pattern(51, 4), 50, 1);
        partIs("P5 slow places", x, 1, want);
        int[] older = new int[40];
        older[0] = 4;
        older[1 + 9] = 1;
        older[1 + 4] = 2;
        older[13 + 2] = 1;
        sum(older, 0, 40);
        int[] newer = older.clone();
        newer[0] = 5;
        newer[1 + 4] = 0;
        newer[13 + 4] = 3;
        sum(newer, 0, 40);
        int[] both = Arrays.copyOf(newer, 80);
        System.arraycopy(older, 0, both, 40, 40);
        partIs("P5 tables", x, 2, both);
    }

    private static void promise5Room() {
        ShadowFiles x = new ShadowFiles();
        for (int row = 0; row < 4; row++) {
            put(x, row, 1, 60);
        }
        put(x, 4, 1, 50);
        put(x, 5, 2, 60);
        put(x, 6, 2, 25);
        due("P5 five", x.move(1), 5);
        due("P5 two left", x.told(1), 2);
        throwsIt("P5 no room", MEANING, () -> x.move(2));
        due("P5 the next is not passed over", x.at(6, 1), 0);
        due("P5 number stays", x.told(2), 12);
        put(x, 5, 2, 26);
        put(x, 6, 2, 25);
        throwsIt("P5 room for one", MEANING, () -> x.move(2));
        due("P5 that ahead is moved", x.at(5, 1), 1);
        due("P5 the next is not", x.at(6, 1), 0);
        due("P5 all is taken", x.told(1), 0);
        x.cut(0);
        throwsIt("P5 refused, so the cut stays", MEANING, () -> x.move(2));
        due("P5 the cut is still ahead", x.remove(0), -1);
        x.open();
        x.remove(2);
        due("P5 three free", x.told(1), 3);
        due("P5 room again", x.move(2), 1);
        due("P5 lowest free slow place", x.byteAt(2, x.told(3) * 40 + 13 + 6), 7);
    }

    private static void promise5Broken() {
        ShadowFiles x = new ShadowFiles();
        put(x, 0, 0, 30);
        put(x, 1, 0, 30);
        x.poke(0, 32 + 4, 8);
        x.open();
        due("P5 a broken one has no month", x.move(0), 1);
        due("P5 broken stays", x.at(0, 1), 0);
        due("P5 whole one moved", x.at(1, 1), 1);
    }

    // Promise 6

    private static void promise6Cut() {
        ShadowFiles x = new ShadowFiles();
        throwsIt("P6 -2", RANGE, () -> cutting(x, -2));
        throwsIt("P6 201", RANGE, () -> cutting(x, 201));
        throwsIt("P6 min", RANGE, () -> cutting(x, Integer.MIN_VALUE));
        throwsIt("P6 max", RANGE, () -> cutting(x, Integer.MAX_VALUE));
        x.cut(200);
        tape(x, pattern(60, 0));
        due("P6 200 is more than any", x.write(0, 0), 3);
        x.cut(0);
        x.cut(-1);
        due("P6 taken back", x.remove(0), 0);
        x.cut(0);
        throwsIt("P6 refused", RANGE, () -> cutting(x, 201));
        throwsIt("P6 a refused write leaves the cut", TURN, () -> x.write(0, 0));
        throwsIt("P6 a refused remove leaves the cut", TURN, () -> x.remove(0));
        due("P6 a move of none leaves the cut", x.move(0), 0);
        x.poke(0, 0, 1);
        x.open();
        tape(x, pattern(3, 0));
        due("P6 the cut is still ahead", x.write(0, 0), -1);
        due("P6 the tape is used up by a cut write", x.told(4), 0);
        due("P6 no row", x.open(), 0);
        tape(x, pattern(3, 0));
        due("P6 the cut is over", x.write(0, 0), 1);
        x.cut(100);
        put(x, 1, 0, 3);
        put(x, 2, 0, 60);
        due("P6 over by a whole write too", x.row(2, -1), 60);
        x.poke(0, 700, 1);
        x.cut(5);
        x.open();
        due("P6 told while shut", x.remove(0), -1);
    }

    private static int cutting(ShadowFiles x, int bytes) {
        x.cut(bytes);
        return 0;
    }

    private static void promise6CutEveryByte() {
        for (int bytes = 0; bytes <= 137; bytes++) {
            ShadowFiles before = rowsForCut();
            ShadowFiles whole = rowsForCut();
            tape(whole, pattern(55, 50));
            whole.write(1, 8);
            ShadowFiles x = rowsForCut();
            tape(x, pattern(55, 50));
            x.cut(bytes);
            int answer = x.write(1, 8);
            due("P6 cut " + bytes, answer, bytes < 136 ? -1 : 3);
            cutPartIs("P6 cut places " + bytes, x, before, whole, bytes);
            if (bytes < 136) {
                throwsIt("P6 shut", TURN, () -> x.told(2));
            }
            due("P6 opened", x.open(), 3);
            // The table is at its end already when the bytes that are missing are the same as before.
            boolean isNew = Arrays.equals(part(x, 2), part(whole, 2));
            rowIs("P6 row by cut " + bytes, x, 1, isNew ? pattern(55, 50) : pattern(30, 1));
            rowIs("P6 row 0", x, 0, pattern(40, 0));
            rowIs("P6 row 2", x, 2, pattern(5, 2));
        }
    }

    private static ShadowFiles rowsForCut() {
        ShadowFiles x = new ShadowFiles();
        put(x, 0, 1, 40);
        put(x, 1, 1, 30);
        put(x, 2, 1, 5);
        return x;
    }

    /** The new row goes to places 5, 6, 7 and the table to 1. */
    private static void cutPartIs(String what, ShadowFiles x, ShadowFiles before, ShadowFiles whole, int bytes) {
        int[] places = part(before, 0);
        int[] newPlaces = part(whole, 0);
        int[] tables = part(before, 2);
        int[] newTables = part(whole, 2);
        for (int i = 0; i < bytes && i < 136; i++) {
            if (i < 96) {
                places[5 * 32 + i] = newPlaces[5 * 32 + i];
            } else {
                tables[40 + i - 96] = newTables[40 + i - 96];
            }
        }
        partIs(what, x, 0, places);
        partIs(what, x, 2, tables);
    }

    private static void promise6CutMove() {
        for (int bytes = 0; bytes <= 105; bytes++) {
            ShadowFiles x = rowsForCut();
            x.cut(bytes);
            int[] places = part(x, 0);
            int answer = x.move(1);
            due("P6 cut move " + bytes, answer, bytes < 104 ? -1 : 3);
            partIs("P6 cut move: the file stays", x, 0, places);
            for (int i = bytes; i < 64 && bytes < 104; i++) {
                due("P6 cut move: slow byte", x.byteAt(1, i), 0);
            }
            if (bytes >= 32 && bytes < 104) {
                due("P6 cut move: first slow place", x.byteAt(1, 0), 2);
            }
            due("P6 cut move: opened", x.open(), 3);
            due("P6 cut move: slow", x.at(0, 1), bytes < 104 ? 0 : 1);
            rowIs("P6 cut move: row 0", x, 0, pattern(40, 0));
        }
        ShadowFiles x = rowsForCut();
        x.cut(110);
        due("P6 only the first write of a move is cut", x.move(1), 3);
    }

    // Promise 7

    private static void promise7Open() {
        ShadowFiles x = new ShadowFiles();
        due("P7 empty", x.open(), 0);
        for (int row = 0; row < 12; row++) {
            put(x, row, row, 1 + row);
            due("P7 open", x.open(), row + 1);
        }
        x.move(3);
        due("P7 slow ones too", x.open(), 12);
        x.poke(0, 1, 255);
        due("P7 broken ones too", x.open(), 12);
        due("P7 twice", x.open(), 12);
        tape(x, pattern(9, 0));
        x.cut(50);
        x.poke(0, 767, 1);
        x.open();
        due("P7 the tape stays", x.told(4), 9);
        due("P7 the cut stays", x.write(0, 0), -1);
    }

    private static void promise7Tables() {
        ShadowFiles x = new ShadowFiles();
        put(x, 0, 0, 3);
        put(x, 1, 0, 3);
        x.poke(2, 40 + 39, 1);
        due("P7 the older table", x.open(), 1);
        due("P7 its number", x.told(2), 1);
        x.poke(2, 40 + 39, 1);
        due("P7 the newer table", x.open(), 2);
        x.poke(2, 20, 1);
        due("P7 the only good one", x.open(), 2);
        due("P7 the only good one is 1", x.told(3), 1);
        x.poke(2, 41, 1);
        due("P7 none", x.open(), 0);
        toldIs("P7 none", x, 24, 16, 0, -1, 0);
        put(x, 7, 0, 3);
        due("P7 at first again", x.told(2), 1);
        due("P7 in table 0", x.told(3), 0);
        due("P7 alone", x.open(), 1);

        tablesOf("P7 1 and 2", 1, 2, 1);
        tablesOf("P7 2 and 1", 2, 1, 0);
        tablesOf("P7 1 and 3", 1, 3, 0);
        tablesOf("P7 3 and 1", 3, 1, 0);
        tablesOf("P7 5 and 5", 5, 5, 0);
        tablesOf("P7 250 and 1", 250, 1, 1);
        tablesOf("P7 1 and 250", 1, 250, 0);
        tablesOf("P7 249 and 250", 249, 250, 1);
        tablesOf("P7 250 and 251", 250, 251, 0);
        tablesOf("P7 251 and 1", 251, 1, 1);
        tablesOf("P7 0 and 1", 0, 1, 1);
        tablesOf("P7 255 and 0", 255, 0, -1);
        tablesOf("P7 0 and 0", 0, 0, -1);
    }

    private static void tablesOf(String what, int number0, int number1, int counts) {
        ShadowFiles x = new ShadowFiles();
        put(x, 0, 0, 3);
        put(x, 1, 0, 3);
        forge(x, 2, 0, number0);
        forge(x, 2, 40, number1);
        x.open();
        due(what, x.told(3), counts);
        due(what + ": number", x.told(2), counts == 0 ? number0 : counts == 1 ? number1 : 0);
        put(x, 2, 0, 3);
        due(what + ": the other table is written", x.told(3), counts == 0 ? 1 : 0);
        int number = counts == 0 ? number0 : counts == 1 ? number1 : 0;
        due(what + ": the next number", x.told(2), number == 250 ? 1 : number + 1);
    }

    // Promise 8

    private static void promise8Row() {
        ShadowFiles x = new ShadowFiles();
        throwsIt("P8 row -1", INDEX, () -> x.row(-1, 0));
        throwsIt("P8 row 12", INDEX, () -> x.row(12, 0));
        throwsIt("P8 i -2", INDEX, () -> x.row(0, -2));
        throwsIt("P8 i min", INDEX, () -> x.row(0, Integer.MIN_VALUE));
        throwsIt("P8 not there", TURN, () -> x.row(0, 0));
        throwsIt("P8 not there ahead of no such byte", TURN, () -> x.row(0, 1000));
        int[] bytes = pattern(60, 30);
        bytes[25] = 255;
        tape(x, bytes);
        x.write(0, 0);
        rowIs("P8", x, 0, bytes);
        throwsIt("P8 i 60", INDEX, () -> x.row(0, 60));
        throwsIt("P8 i max", INDEX, () -> x.row(0, Integer.MAX_VALUE));
        x.move(0);
        rowIs("P8 slow", x, 0, bytes);
        x.poke(1, 40, 1);
        throwsIt("P8 shut", TURN, () -> x.row(0, 0));
        throwsIt("P8 shut ahead of no such byte", TURN, () -> x.row(0, 1000));
        throwsIt("P8 i -2 ahead of shut", INDEX, () -> x.row(0, -2));
        x.open();
        due("P8 broken", x.row(0, -1), 0);
        throwsIt("P8 broken: no byte", INDEX, () -> x.row(0, 0));
    }

    private static void promise8Chains() {
        ShadowFiles x = threePlaces();
        x.poke(0, 32 + 10, 1);
        brokenAt("P8 wrong in the middle", x, 2);
        forgedIs("P8 holds none", 65, 0, true, 3, 0);
        forgedIs("P8 holds 26", 1, 26, true, 1, 0);
        forgedIs("P8 another month", 34, 5, true, 2, 0);
        forgedIs("P8 no such place", 0, 25, true, 1, 0);
        forgedIs("P8 place 23, which holds none", 0, 24, true, 2, 0);
        forgedIs("P8 on itself", 0, 1, true, 1, 0);
        forgedIs("P8 back to the first", 64, 1, true, 3, 0);
        forgedIs("P8 behind three", 64, 4, true, 3, 0);
        forgedIs("P8 last one first", 0, 0, false, 1, 25);
        forgedIs("P8 a shorter one in the middle", 33, 7, false, 3, 25 + 7 + 10);

        ShadowFiles y = threePlaces();
        forge(y, 2, 1, 25);
        y.open();
        due("P8 no first place: there", y.at(0, 0), 1);
        due("P8 no first place: broken", y.row(0, -1), 0);
        due("P8 no first place: gone through", y.at(0, 3), 0);
        due("P8 no first place: month", y.at(0, 2), -1);

        // A place that was not free while its chain was broken goes on into a row written since.
        ShadowFiles z = threePlaces();
        z.poke(0, 10, 1);
        z.open();
        put(z, 1, 2, 50);
        z.poke(0, 10, 1);
        z.open();
        due("P8 75 bytes", z.row(0, -1), 75);
        due("P8 byte 74", z.row(0, 74), pattern(50, 1)[49]);
        throwsIt("P8 byte 75", INDEX, () -> z.row(0, 75));
        due("P8 shared places count once", z.told(0), 21);
        due("P8 75 bytes are moved", z.move(2), 2);
        due("P8 75 bytes in the slow file", z.row(0, -1), 75);
        due("P8 slow byte 74", z.row(0, 74), pattern(50, 1)[49]);
    }

    private static ShadowFiles threePlaces() {
        ShadowFiles x = new ShadowFiles();
        put(x, 0, 2, 60);
        return x;
    }

    /** A row of three places, month 2, one byte of it changed and the place's sum set right. */
    private static void forgedIs(String what, int i, int value, boolean broken, int places, int bytes) {
        ShadowFiles x = threePlaces();
        forge(x, 0, i, value);
        if (broken) {
            brokenAt(what, x, places);
            return;
        }
        x.open();
        due(what + ": bytes", x.row(0, -1), bytes);
        due(what + ": places", x.at(0, 3), places);
        due(what + ": month", x.at(0, 2), 2);
        due(what + ": last byte", x.row(0, bytes - 1), pattern(60, 0)[places == 1 ? 24 : 59]);
    }

    private static void brokenAt(String what, ShadowFiles x, int places) {
        x.open();
        due(what + ": there", x.at(0, 0), 1);
        due(what + ": bytes", x.row(0, -1), 0);
        due(what + ": month", x.at(0, 2), -1);
        due(what + ": places", x.at(0, 3), places);
        due(what + ": free", x.told(0), 24 - places);
        due(what + ": not moved", x.move(2), 0);
    }

    // Promise 9

    private static void promise9At() {
        ShadowFiles x = new ShadowFiles();
        throwsIt("P9 row -1", INDEX, () -> x.at(-1, 0));
        throwsIt("P9 row 12", INDEX, () -> x.at(12, 0));
        throwsIt("P9 what -1", INDEX, () -> x.at(0, -1));
        throwsIt("P9 what 4", INDEX, () -> x.at(0, 4));
        due("P9 not there", x.at(0, 0), 0);
        for (int what = 1; what <= 3; what++) {
            int w = what;
            throwsIt("P9 not there: " + what, TURN, () -> x.at(0, w));
        }
        put(x, 0, 10, 26);
        due("P9 there", x.at(0, 0), 1);
        due("P9 not slow", x.at(0, 1), 0);
        due("P9 month", x.at(0, 2), 10);
        due("P9 places", x.at(0, 3), 2);
        x.move(10);
        due("P9 slow: there", x.at(0, 0), 1);
        due("P9 slow", x.at(0, 1), 1);
        due("P9 slow: month", x.at(0, 2), 10);
        due("P9 slow: places", x.at(0, 3), 2);
        x.poke(1, 32 + 31, 128);
        for (int what = 0; what <= 3; what++) {
            int w = what;
            throwsIt("P9 shut: " + what, TURN, () -> x.at(0, w));
        }
        throwsIt("P9 index ahead of shut", INDEX, () -> x.at(0, 4));
        x.open();
        due("P9 broken: slow", x.at(0, 1), 1);
        due("P9 broken: month", x.at(0, 2), -1);
        due("P9 broken: places", x.at(0, 3), 2);
    }

    // Promise 10

    private static void promise10Told() {
        ShadowFiles x = new ShadowFiles();
        throwsIt("P10 -1", INDEX, () -> x.told(-1));
        throwsIt("P10 5", INDEX, () -> x.told(5));
        toldIs("P10 empty", x, 24, 16, 0, -1, 0);
        put(x, 0, 0, 60);
        toldIs("P10 one", x, 21, 16, 1, 0, 0);
        put(x, 1, 0, 26);
        x.feed(0, 5);
        toldIs("P10 two", x, 19, 16, 2, 1, 5);
        x.move(0);
        toldIs("P10 moved", x, 24, 11, 4, 1, 5);
        x.poke(1, 0, 1);
        for (int what = 0; what <= 3; what++) {
            int w = what;
            throwsIt("P10 shut: " + what, TURN, () -> x.told(w));
        }
        throwsIt("P10 index ahead of shut", INDEX, () -> x.told(5));
        due("P10 shut: tape", x.told(4), 5);
        x.open();
        toldIs("P10 broken at its first", x, 24, 13, 4, 1, 5);
    }

    // Promise 11

    private static void promise11Wrong() {
        ShadowFiles x = new ShadowFiles();
        throwsIt("P11 what -1", INDEX, () -> x.wrong(-1, 0));
        throwsIt("P11 what 3", INDEX, () -> x.wrong(3, 0));
        throwsIt("P11 k -1", INDEX, () -> x.wrong(0, -1));
        throwsIt("P11 k min", INDEX, () -> x.wrong(2, Integer.MIN_VALUE));
        for (int what = 0; what < 3; what++) {
            due("P11 none", x.wrong(what, 0), -1);
            due("P11 none of many", x.wrong(what, Integer.MAX_VALUE), -1);
        }
        put(x, 4, 0, 60);
        put(x, 1, 0, 30);
        put(x, 2, 1, 60);
        x.poke(0, 5 * 32 + 31, 1);
        due("P11 the file as it stands while shut", x.wrong(0, 0), 5);
        x.poke(0, 3 * 32 + 7, 1);
        x.poke(0, 2 * 32 + 7, 1);
        x.poke(0, 20 * 32, 1);
        due("P11 by numbers: 0", x.wrong(0, 0), 2);
        due("P11 by numbers: 1", x.wrong(0, 1), 3);
        due("P11 by numbers: 2", x.wrong(0, 2), 5);
        due("P11 not one that no chain goes through", x.wrong(0, 3), -1);
        due("P11 none slow", x.wrong(1, 0), -1);
        x.poke(0, 6 * 32 + 7, 1);
        due("P11 a chain does not go on behind a wrong one", x.wrong(0, 3), -1);
        due("P11 open is the same", x.open() + x.wrong(0, 2), 8);
        x.poke(0, 0, 1);
        due("P11 place 0", x.wrong(0, 0), 0);
        due("P11 place 2 is behind it no more", x.wrong(0, 1), 3);

        ShadowFiles y = new ShadowFiles();
        put(y, 0, 0, 60);
        put(y, 1, 0, 60);
        y.move(0);
        y.poke(1, 5 * 32, 1);
        y.poke(1, 32, 1);
        due("P11 slow 0", y.wrong(1, 0), 1);
        due("P11 slow 1", y.wrong(1, 1), 5);
        due("P11 slow 2", y.wrong(1, 2), -1);
        due("P11 none of the file", y.wrong(0, 0), -1);
        y.poke(2, 79, 1);
        due("P11 table 1", y.wrong(2, 0), 1);
        due("P11 by the older table: row 0 alone is slow", y.wrong(1, 1), -1);
        y.poke(2, 0, 1);
        due("P11 both tables: 0", y.wrong(2, 0), 0);
        due("P11 both tables: 1", y.wrong(2, 1), 1);
        due("P11 both tables: 2", y.wrong(2, 2), -1);
        due("P11 no table: no chains", y.wrong(1, 0), -1);

        ShadowFiles z = new ShadowFiles();
        z.poke(2, 50, 4);
        due("P11 a table without a number", z.wrong(2, 0), 1);
        due("P11 the one that is all 0 is none", z.wrong(2, 1), -1);
        ShadowFiles c = new ShadowFiles();
        c.feed(1, 1);
        c.cut(40);
        c.write(0, 0);
        due("P11 a table that was cut", c.wrong(2, 0), 0);
        ShadowFiles e = new ShadowFiles();
        put(e, 0, 0, 3);
        forge(e, 0, 1, 0);
        due("P11 a place that is not right, but its sum is", e.wrong(0, 0), -1);
    }

    // Promises 3, 10 and 11: a row whose bytes for both files are not 0 is slow, and has one chain

    /** Row 0 is slow, in slow places 0 and 1, and its byte for the file names place 0; row 1 has place 2. */
    private static ShadowFiles namedInBoth() {
        ShadowFiles x = new ShadowFiles();
        put(x, 0, 4, 30);
        put(x, 1, 5, 3);
        x.move(4);
        forge(x, 2, 1, 1);
        x.open();
        return x;
    }

    private static void rowNamedInBothFiles() {
        ShadowFiles x = namedInBoth();
        due("Both: slow", x.at(0, 1), 1);
        rowIs("Both: bytes", x, 0, pattern(30, 0));
        toldIs("Both", x, 23, 14, 3, 0, 0);
        due("Both: not moved again", x.move(4), 0);
        x.poke(0, 7, 1);
        due("Both: no chain goes through place 0", x.wrong(0, 0), -1);
        x.poke(1, 7, 1);
        due("Both: the slow chain is its own", x.wrong(1, 0), 0);
        x.poke(1, 7, 1);
        x.open();
        tape(x, pattern(51, 9));
        due("Both: written", x.write(2, 5), 3);
        due("Both: the lowest free place is 0", x.byteAt(2, 40 + 1 + 2), 1);
        due("Both: then 1", x.byteAt(0, 0), 2);
        due("Both: then 3", x.byteAt(0, 32), 4);
        rowIs("Both: the slow row stays", x, 0, pattern(30, 0));
        toldIs("Both: behind a write", x, 20, 14, 4, 1, 0);
        due("Both: removed", x.remove(0), 0);
        due("Both: not there", x.at(0, 0), 0);
        toldIs("Both: behind remove", x, 20, 16, 5, 0, 0);

        ShadowFiles y = namedInBoth();
        forge(y, 2, 13, 200);
        y.open();
        due("Both: no such slow place: slow", y.at(0, 1), 1);
        due("Both: no such slow place: broken", y.at(0, 2), -1);
        toldIs("Both: no such slow place", y, 23, 16, 3, 0, 0);
        put(y, 0, 4, 26);
        due("Both: written again, not slow", y.at(0, 1), 0);
        toldIs("Both: written again", y, 21, 16, 4, 1, 0);
    }

    private static void rowNamedInBothFilesSharesAPlace() {
        ShadowFiles x = namedInBoth();
        forge(x, 2, 1, 3);
        x.open();
        due("Both: place 2 is row 1's still", x.told(0), 23);
        x.poke(0, 2 * 32 + 9, 1);
        due("Both: and is wrong", x.wrong(0, 0), 2);
        x.open();
        put(x, 3, 0, 60);
        due("Both: and is not taken", x.byteAt(0, 32), 4);
    }

    // Promise 12

    private static void promise12ByteAt() {
        ShadowFiles x = new ShadowFiles();
        for (int what = 0; what < 3; what++) {
            int w = what;
            int size = size(what);
            throwsIt("P12 i -1", INDEX, () -> x.byteAt(w, -1));
            throwsIt("P12 i behind", INDEX, () -> x.byteAt(w, size));
            throwsIt("P12 i max", INDEX, () -> x.byteAt(w, Integer.MAX_VALUE));
            throwsIt("P12 i min", INDEX, () -> x.byteAt(w, Integer.MIN_VALUE));
            due("P12 last one", x.byteAt(what, size - 1), 0);
        }
        throwsIt("P12 what -1", INDEX, () -> x.byteAt(-1, 0));
        throwsIt("P12 what 3", INDEX, () -> x.byteAt(3, 0));
        x.feed(0xFFL, 1);
        x.write(0, 0);
        due("P12 without a sign", x.byteAt(0, 3), 255);
        x.poke(1, 511, 200);
        due("P12 also when it is shut", x.byteAt(1, 511), 200);
    }

    // Promise 13

    private static void promise13Poke() {
        ShadowFiles x = new ShadowFiles();
        throwsIt("P13 what -1", INDEX, () -> poking(x, -1, 0, 1));
        throwsIt("P13 what 3", INDEX, () -> poking(x, 3, 0, 1));
        for (int what = 0; what < 3; what++) {
            int w = what;
            int size = size(what);
            throwsIt("P13 i -1", INDEX, () -> poking(x, w, -1, 1));
            throwsIt("P13 i behind", INDEX, () -> poking(x, w, size, 1));
            throwsIt("P13 mask 0", RANGE, () -> poking(x, w, size - 1, 0));
            throwsIt("P13 mask 256", RANGE, () -> poking(x, w, 0, 256));
            throwsIt("P13 mask -1", RANGE, () -> poking(x, w, 0, -1));
            throwsIt("P13 index ahead of range", INDEX, () -> poking(x, w, size, 0));
        }
        due("P13 refused: still open", x.told(0), 24);
        for (int what = 0; what < 3; what++) {
            int[] want = part(x, what);
            int last = size(what) - 1;
            want[last] = 0xA5;
            x.poke(what, last, 0xA5);
            partIs("P13 one byte", x, what, want);
            want[last] = 0x5A;
            x.poke(what, last, 0xFF);
            partIs("P13 xored", x, what, want);
            throwsIt("P13 shut", TURN, () -> x.told(0));
            x.open();
        }
    }

    private static int poking(ShadowFiles x, int what, int i, int mask) {
        x.poke(what, i, mask);
        return 0;
    }

    // Terms

    private static void refusedChangesNothing() {
        ShadowFiles x = rowsForCut();
        tape(x, pattern(9, 0));
        int[][] before = {part(x, 0), part(x, 1), part(x, 2)};
        throwsIt("T write", INDEX, () -> x.write(12, 0));
        throwsIt("T write", RANGE, () -> x.write(0, 12));
        throwsIt("T feed", RANGE, () -> x.feed(0, 0));
        throwsIt("T feed", RANGE, () -> x.feed(0, 52));
        throwsIt("T remove", TURN, () -> x.remove(5));
        throwsIt("T move", RANGE, () -> x.move(12));
        throwsIt("T cut", RANGE, () -> cutting(x, 300));
        throwsIt("T poke", RANGE, () -> poking(x, 0, 0, 0));
        throwsIt("T poke", INDEX, () -> poking(x, 0, 768, 1));
        for (int what = 0; what < 3; what++) {
            partIs("T bytes", x, what, before[what]);
        }
        toldIs("T refused", x, 19, 16, 3, 0, 9);
    }

    // Helpers

    private static int[] pattern(int n, int seed) {
        int[] bytes = new int[n];
        for (int i = 0; i < n; i++) {
            bytes[i] = (seed * 41 + i * 37 + 200) & 0xFF;
        }
        return bytes;
    }

    private static void tape(ShadowFiles x, int[] bytes) {
        for (int from = 0; from < bytes.length; from += 8) {
            int n = Math.min(8, bytes.length - from);
            long packed = 0x0101010101010101L;
            for (int i = 0; i < n; i++) {
                packed = (packed << 8) | bytes[from + i];
            }
            x.feed(packed, n);
        }
    }

    /** Row's bytes are pattern(n, row). */
    private static void put(ShadowFiles x, int row, int month, int n) {
        tape(x, pattern(n, row));
        x.write(row, month);
    }

    private static int size(int what) {
        return what == 0 ? 768 : what == 1 ? 512 : 80;
    }

    private static int[] part(ShadowFiles x, int what) {
        int[] bytes = new int[size(what)];
        for (int i = 0; i < bytes.length; i++) {
            bytes[i] = x.byteAt(what, i);
        }
        return bytes;
    }

    private static void place(int[] file, int place, int link, int month, int[] bytes, int from, int n) {
        int at = place * 32;
        file[at] = link;
        file[at + 1] = n;
        file[at + 2] = month;
        System.arraycopy(bytes, from, file, at + 3, n);
        sum(file, at, 32);
    }

    private static void sum(int[] bytes, int from, int size) {
        int s = 0;
        for (int i = from; i < from + size - 4; i++) {
            int x = s ^ bytes[i];
            s = ((x << 23) | (x >>> 9)) * 0x9E3779B1;
        }
        for (int i = 0; i < 4; i++) {
            bytes[from + size - 1 - i] = (s >>> (8 * i)) & 0xFF;
        }
    }

    /** Sets one byte and makes the sum of its place or table right. */
    private static void forge(ShadowFiles x, int what, int i, int value) {
        int size = what == 2 ? 40 : 32;
        int from = i / size * size;
        int[] bytes = part(x, what);
        bytes[i] = value;
        sum(bytes, from, size);
        for (int k = from; k < from + size; k++) {
            int mask = bytes[k] ^ x.byteAt(what, k);
            if (mask != 0) {
                x.poke(what, k, mask);
            }
        }
    }

    private static void toldIs(String what, ShadowFiles x, int... want) {
        for (int k = 0; k < want.length; k++) {
            due(what + ": told " + k, x.told(k), want[k]);
        }
    }

    private static void rowIs(String what, ShadowFiles x, int row, int[] want) {
        due(what + ": length", x.row(row, -1), want.length);
        for (int i = 0; i < want.length && i < x.row(row, -1); i++) {
            due(what + ": byte " + i, x.row(row, i), want[i]);
        }
    }

    private static void partIs(String what, ShadowFiles x, int part, int[] want) {
        int[] got = part(x, part);
        int differs = Arrays.mismatch(got, want);
        due(what + ": the first byte that differs in part " + part, differs, -1);
    }

    private static void due(String what, int got, int want) {
        checks++;
        if (got != want) {
            failures++;
            System.out.println(what + ": answered " + got + ", due is " + want);
        }
    }

    private static void throwsIt(String what, String want, Call call) {
        checks++;
        String got;
        try {
            got = "answer " + call.answer();
        } catch (RuntimeException e) {
            got = e.getClass().getSimpleName();
        }
        if (!got.equals(want)) {
            failures++;
            System.out.println(what + ": " + got + ", due is " + want);
        }
    }
}
