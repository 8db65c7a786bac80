import java.util.Arrays;

/** A test for each sentence of the document's promises 1 to 13, by its own words. */
public final class PromiseTest extends Bench {
    public static void main(String[] args) {
        promises1And2();
        promise3();
        promises4And5();
        promises6And7();
        promises8And9();
        promise10();
        promise11();
        promises12And13();
        end();
    }

    private static void promises1And2() {
        section("Promise 1: A new object");
        test("An empty file that is open.", PromiseTest::emptyAndOpen);
        section("Promise 2: feed");
        test("n bytes (1 .. 8; the lowest n, the highest of these first)", PromiseTest::lowestBytesHighestFirst);
        test("more on the tape: how many.", PromiseTest::howManyOnTheTape);
        test("Range: n;", PromiseTest::feedRange);
        test("meaning: there would be more than 60.", PromiseTest::feedMeaning);
    }

    private static void promise3() {
        section("Promise 3: write");
        test("The tape (used up) becomes a row: how many places it takes;", PromiseTest::tapeBecomesARow);
        test("-1 when the power failed.", PromiseTest::writePower);
        test("Index: no such row;", PromiseTest::writeIndex);
        test("turn: the file is shut, or the tape is empty;", PromiseTest::writeTurn);
        test("range: the month;", PromiseTest::writeRange);
        test("meaning: there are not so many free places (the tape stays).", PromiseTest::writeMeaning);
    }

    private static void promises4And5() {
        section("Promise 4: remove");
        test("A row is taken away: 0;", PromiseTest::rowTakenAway);
        test("-1 when the power failed.", PromiseTest::removePower);
        test("Index: no such row;", PromiseTest::removeIndex);
        test("turn: the file is shut, or the row is not there.", PromiseTest::removeTurn);
        section("Promise 5: move");
        test("Moves a month to the slow file: how many rows;", PromiseTest::monthMoved);
        test("-1 when the power failed.", PromiseTest::movePower);
        test("Turn: the file is shut;", PromiseTest::moveTurn);
        test("range: the month;", PromiseTest::moveRange);
        test("meaning: there is no room for the next of them (those ahead of it are moved).",
                PromiseTest::moveMeaning);
    }

    private static void promises6And7() {
        section("Promise 6: cut");
        test("The next write is cut behind so many bytes (0 .. 200; -1: it is not).", PromiseTest::nextWriteIsCut);
        test("Range: they are not so.", PromiseTest::cutRange);
        section("Promise 7: open");
        test("Opens the file again by its tables: how many rows there are.", PromiseTest::openedAgain);
    }

    private static void promises8And9() {
        section("Promise 8: row");
        test("Byte i of a row;", PromiseTest::byteOfARow);
        test("i = -1: how many it has (0: it is broken).", PromiseTest::bytesOfARow);
        test("Index: no such row, or i is below -1;", PromiseTest::rowIndex);
        test("turn: the file is shut, or the row is not there;", PromiseTest::rowTurn);
        test("then index again: it has no such byte.", PromiseTest::rowIndexAgain);
        section("Promise 9: at");
        test("Of a row 0 whether it is there (1, 0),", PromiseTest::whetherItIsThere);
        test("1 whether it is slow,", PromiseTest::whetherItIsSlow);
        test("2 its month (-1: broken),", PromiseTest::itsMonth);
        test("3 how many places its chain goes through.", PromiseTest::itsPlaces);
        test("Index: no such row or what;", PromiseTest::atIndex);
        test("turn: the file is shut, or (1 to 3) the row is not there.", PromiseTest::atTurn);
    }

    private static void promise10() {
        section("Promise 10: told");
        test("What 0 free places,", PromiseTest::toldFree);
        test("1 free ones of the slow file,", PromiseTest::toldSlowFree);
        test("2 the number of the table that counts (0: none),", PromiseTest::toldNumber);
        test("3 which of the two that is (0 or 1; -1: none),", PromiseTest::toldTable);
        test("4 bytes on the tape.", PromiseTest::toldTape);
        test("Index: no such what;", PromiseTest::toldIndex);
        test("turn: the file is shut (0 to 3).", PromiseTest::toldTurn);
    }

    private static void promise11() {
        section("Promise 11: wrong");
        test("Checks sums: the k-th (0 first, by numbers) of 0 places that chains go through,",
                PromiseTest::wrongPlaces);
        test("1 slow ones that slow chains go through, whose sum is not right;", PromiseTest::wrongSlowPlaces);
        test("2 of the tables that are not all 0 and whose sum is not right", PromiseTest::wrongTables);
        test("(of each by the file as it stands, also when it is shut);", PromiseTest::wrongAsItStands);
        test("-1 when there are not so many.", PromiseTest::wrongNotSoMany);
        test("Index: no such what, or k is below 0.", PromiseTest::wrongIndex);
    }

    private static void promises12And13() {
        section("Promise 12: byteAt");
        test("Byte i of the file: what 0 places (768), 1 the slow file's (512), 2 tables (80).",
                PromiseTest::bytesOfTheFile);
        test("Index: there is none such.", PromiseTest::byteAtIndex);
        section("Promise 13: poke");
        test("A byte of it is xored by a mask (1 .. 255);", PromiseTest::xoredByAMask);
        test("the file is shut then.", PromiseTest::shutByAPoke);
        test("Index: there is none such;", PromiseTest::pokeIndex);
        test("range: the mask.", PromiseTest::pokeRange);
    }

    // Files that several tests begin with

    private static Probe withRow(int row, int month, int n) {
        Probe x = new Probe();
        x.put(row, month, n);
        return x;
    }

    /** Rows 0 to 7 of month 1, three places each: none is free. */
    private static Probe fullFile() {
        Probe x = new Probe();
        for (int row = 0; row < 8; row++) {
            x.put(row, 1, 60);
        }
        return x;
    }

    /** Rows 0 to 3 of month 1 and row 4 have 14 of the slow places. */
    private static Probe slowFileWithTwoLeft() {
        Probe x = new Probe();
        for (int row = 0; row < 4; row++) {
            x.put(row, 1, 60);
        }
        x.put(4, 1, 50);
        x.move(1);
        return x;
    }

    // Promise 1

    private static void emptyAndOpen() {
        Probe x = new Probe();
        toldIs("empty", x, 24, 16, 0, -1, 0);
        for (int row = 0; row < 12; row++) {
            due("row " + row, x.at(row, 0), 0);
        }
        for (int what = 0; what < 3; what++) {
            partIs("its bytes", x, what, new int[Probe.size(what)]);
            due("nothing is wrong", x.wrong(what, 0), -1);
        }
        Probe other = new Probe();
        due("no cut is ahead", x.put(0, 0, 60), 3);
        toldIs("another one has nothing of it", other, 24, 16, 0, -1, 0);
    }

    // Promise 2

    private static void lowestBytesHighestFirst() {
        long bytes = 0xF1E2D3C4B5A69788L;
        for (int n = 1; n <= 8; n++) {
            Probe x = new Probe();
            due("n " + n, x.feed(bytes, n), n);
            x.write(0, 0);
            int[] want = new int[n];
            for (int i = 0; i < n; i++) {
                want[i] = (int) (bytes >>> (8 * (n - 1 - i))) & 0xFF;
            }
            rowIs("n " + n, x, 0, want);
        }
        Probe x = new Probe();
        x.feed(0x0102030405060708L, 8);
        x.feed(-1L, 1);
        x.feed(Long.MIN_VALUE, 8);
        x.feed(0x7FFFL, 2);
        x.write(0, 0);
        rowIs("one behind the other", x, 0,
                new int[] {1, 2, 3, 4, 5, 6, 7, 8, 255, 128, 0, 0, 0, 0, 0, 0, 0, 127, 255});
    }

    private static void howManyOnTheTape() {
        Probe x = new Probe();
        due("1", x.feed(0, 1), 1);
        due("and 8", x.feed(0, 8), 9);
        due("and 3", x.feed(0, 3), 12);
        x.write(0, 0);
        due("a new tape", x.feed(0, 2), 2);
        x.shut();
        due("also when the file is shut", x.feed(0, 5), 7);
    }

    private static void feedRange() {
        Probe x = new Probe();
        x.feed(0, 3);
        for (int n : outside(1, 8)) {
            refused("n " + n, x, p -> p.feed(-1, n), RANGE);
        }
        due("n 1", x.feed(0, 1), 4);
        due("n 8", x.feed(0, 8), 12);
    }

    private static void feedMeaning() {
        Probe x = new Probe();
        x.tape(Probe.pattern(56, 3));
        for (int n = 5; n <= 8; n++) {
            int more = n;
            refused("56 and " + n, x, p -> p.feed(-1, more), MEANING);
        }
        due("60", x.feed(0x0A0B0C0DL, 4), 60);
        for (int n = 1; n <= 8; n++) {
            int more = n;
            refused("60 and " + n, x, p -> p.feed(-1, more), MEANING);
        }
        x.write(0, 0);
        int[] want = Arrays.copyOf(Probe.pattern(56, 3), 60);
        System.arraycopy(new int[] {10, 11, 12, 13}, 0, want, 56, 4);
        rowIs("60 bytes", x, 0, want);
    }

    // Promise 3

    private static void tapeBecomesARow() {
        for (int n = 1; n <= 60; n++) {
            Probe x = new Probe();
            x.tape(Probe.pattern(n, n));
            due("places of " + n, x.write(n % 12, n % 7), (n + 24) / 25);
            due("the tape is used up", x.told(4), 0);
            due("and empty", x.write(0, 0), TURN);
            rowIs(n + " bytes", x, n % 12, Probe.pattern(n, n));
            due("month", x.at(n % 12, 2), n % 7);
        }
        Probe x = withRow(3, 2, 60);
        due("a shorter one of another month", x.put(3, 4, 10), 1);
        rowIs("a shorter one", x, 3, Probe.pattern(10, 3));
        due("another month", x.at(3, 2), 4);
        due("the older places are free", x.told(0), 23);
        due("a longer one", x.put(3, 4, 60), 3);
        rowIs("a longer one", x, 3, Probe.pattern(60, 3));
    }

    private static void writePower() {
        Probe x = withRow(0, 1, 9);
        x.tape(Probe.pattern(30, 5));
        x.cut(103);
        due("the power failed", x.write(0, 2), -1);
        due("the tape is used up", x.told(4), 0);
        due("shut", x.write(0, 2), TURN);
        x.open();
        rowIs("the row as it was", x, 0, Probe.pattern(9, 0));
        due("its month as it was", x.at(0, 2), 1);
        x.tape(Probe.pattern(30, 5));
        due("then it is written", x.write(0, 2), 2);
        rowIs("then it is written", x, 0, Probe.pattern(30, 5));
    }

    private static void writeIndex() {
        Probe x = withRow(0, 0, 3);
        x.feed(1, 1);
        for (int row : outside(0, 11)) {
            refused("row " + row, x, p -> p.write(row, 0), INDEX);
        }
        due("row 0", x.write(0, 0), 1);
        x.feed(1, 1);
        due("row 11", x.write(11, 0), 1);
    }

    private static void writeTurn() {
        Probe x = withRow(0, 0, 3);
        refused("the tape is empty", x, p -> p.write(0, 0), TURN);
        x.feed(1, 1);
        x.shut();
        refused("shut by a poke", x, p -> p.write(0, 0), TURN);
        x.open();
        due("opened", x.write(0, 0), 1);
        x.cut(0);
        x.remove(0);
        x.feed(1, 1);
        refused("shut by the power", x, p -> p.write(0, 0), TURN);
    }

    private static void writeRange() {
        Probe x = withRow(0, 0, 3);
        x.feed(1, 1);
        for (int month : outside(0, 11)) {
            refused("month " + month, x, p -> p.write(0, month), RANGE);
        }
        due("month 0", x.write(0, 0), 1);
        x.feed(1, 1);
        due("month 11", x.write(0, 11), 1);
    }

    private static void writeMeaning() {
        Probe x = fullFile();
        x.feed(1, 1);
        refused("one, and none is free", x, p -> p.write(8, 0), MEANING);
        refused("its own places are not free", x, p -> p.write(7, 0), MEANING);
        x.remove(3);
        due("one of three", x.write(3, 0), 1);
        x.tape(Probe.pattern(51, 0));
        refused("three, and two are free", x, p -> p.write(8, 0), MEANING);
        due("the tape stays", x.told(4), 51);
        x.remove(3);
        due("three, and three are free", x.write(8, 0), 3);
        rowIs("by the tape that stayed", x, 8, Probe.pattern(51, 0));
        due("none is free", x.told(0), 0);
        x.move(1);
        x.tape(Probe.pattern(26, 0));
        due("room by moving", x.write(9, 0), 2);
        due("and some is left", x.told(0), 13);
    }

    // Promise 4

    private static void rowTakenAway() {
        Probe x = withRow(0, 1, 30);
        x.put(11, 1, 30);
        due("row 0", x.remove(0), 0);
        due("it is not there", x.at(0, 0), 0);
        rowIs("the other one stays", x, 11, Probe.pattern(30, 11));
        due("its places are free", x.told(0), 22);
        due("opened", x.open(), 1);
        x.move(1);
        due("a slow one", x.remove(11), 0);
        due("it is not there either", x.at(11, 0), 0);
        due("its slow places are free", x.told(1), 16);
        due("none is left", x.open(), 0);
        x.put(2, 1, 30);
        x.poke(0, 5, 1);
        x.open();
        due("a broken one", x.remove(2), 0);
        due("the broken one is not there", x.at(2, 0), 0);
        x.tape(Probe.pattern(4, 0));
        due("the tape stays", x.told(4), 4);
        x.write(0, 0);
        x.feed(1, 1);
        x.remove(0);
        due("the tape stays when a row goes", x.told(4), 1);
    }

    private static void removePower() {
        Probe x = withRow(2, 1, 30);
        x.cut(39);
        due("the power failed", x.remove(2), -1);
        due("shut", x.remove(2), TURN);
        due("still there", x.open(), 1);
        rowIs("still there", x, 2, Probe.pattern(30, 2));
        x.cut(0);
        due("ahead of the first byte", x.remove(2), -1);
        x.open();
        x.cut(40);
        due("whole", x.remove(2), 0);
        due("gone", x.open(), 0);
    }

    private static void removeIndex() {
        Probe x = withRow(0, 0, 3);
        x.put(11, 0, 3);
        for (int row : outside(0, 11)) {
            refused("row " + row, x, p -> p.remove(row), INDEX);
        }
        due("row 0", x.remove(0), 0);
        due("row 11", x.remove(11), 0);
    }

    private static void removeTurn() {
        Probe x = withRow(0, 0, 3);
        for (int row = 1; row < 12; row++) {
            due("row " + row + " is not there", x.remove(row), TURN);
        }
        refused("not there", x, p -> p.remove(1), TURN);
        x.remove(0);
        refused("not there any more", x, p -> p.remove(0), TURN);
        x.put(0, 0, 3);
        x.shut();
        refused("shut", x, p -> p.remove(0), TURN);
        x.open();
        due("opened", x.remove(0), 0);
    }

    // Promise 5

    private static void monthMoved() {
        Probe x = withRow(8, 4, 60);
        x.put(1, 5, 60);
        x.put(3, 4, 26);
        due("none of month 6", x.move(6), 0);
        due("two of month 4", x.move(4), 2);
        due("row 8 is slow", x.at(8, 1), 1);
        due("row 3 is slow", x.at(3, 1), 1);
        due("row 1 is not", x.at(1, 1), 0);
        rowIs("row 8", x, 8, Probe.pattern(60, 8));
        rowIs("row 3", x, 3, Probe.pattern(26, 3));
        due("month of row 8", x.at(8, 2), 4);
        toldIs("two moved", x, 21, 11, 5, 0, 0);
        due("none again", x.move(4), 0);
        Probe all = new Probe();
        for (int row = 0; row < 12; row++) {
            all.put(row, 11, 1);
        }
        due("all twelve, month 11", all.move(11), 12);
        toldIs("all twelve", all, 24, 4, 24, 1, 0);
        due("all are there", all.open(), 12);
    }

    private static void movePower() {
        Probe x = withRow(0, 0, 60);
        x.cut(135);
        due("the power failed", x.move(0), -1);
        due("shut", x.move(0), TURN);
        due("opened", x.open(), 1);
        due("not slow", x.at(0, 1), 0);
        x.cut(136);
        due("whole", x.move(0), 1);
        x.cut(0);
        due("no row, so no write, so no failure", x.move(0), 0);
        due("the cut is ahead of the next one still", x.remove(0), -1);
    }

    private static void moveTurn() {
        Probe x = withRow(0, 0, 3);
        x.shut();
        refused("shut, a row to move", x, p -> p.move(0), TURN);
        refused("shut, none to move", x, p -> p.move(1), TURN);
        x.open();
        due("opened", x.move(0), 1);
    }

    private static void moveRange() {
        Probe x = withRow(0, 0, 3);
        x.put(1, 11, 3);
        for (int month : outside(0, 11)) {
            refused("month " + month, x, p -> p.move(month), RANGE);
        }
        due("month 0", x.move(0), 1);
        due("month 11", x.move(11), 1);
    }

    private static void moveMeaning() {
        Probe x = slowFileWithTwoLeft();
        x.put(5, 2, 60);
        x.put(6, 2, 25);
        refused("three, and two are free", x, p -> p.move(2), MEANING);
        due("the next one is not passed over", x.at(6, 1), 0);
        x.put(5, 2, 26);
        due("two, then one", x.move(2), MEANING);
        due("that ahead is moved", x.at(5, 1), 1);
        rowIs("that ahead is moved", x, 5, Probe.pattern(26, 5));
        due("the next one is not", x.at(6, 1), 0);
        rowIs("the next one", x, 6, Probe.pattern(25, 6));
        due("none is free", x.told(1), 0);
        due("still open", x.told(2), 5 + 5 + 3 + 1);
        refused("none is free", x, p -> p.move(2), MEANING);
        due("a month without rows needs no room", x.move(3), 0);
        x.remove(2);
        due("three are free", x.move(2), 1);

        Probe cut = slowFileWithTwoLeft();
        cut.put(5, 2, 26);
        cut.put(6, 2, 25);
        cut.cut(104);
        due("the cut is over by that ahead", cut.move(2), MEANING);
        due("the next write is not cut", cut.remove(6), 0);
    }

    // Promise 6

    private static void nextWriteIsCut() {
        Probe x = new Probe();
        x.cut(200);
        due("200 is more than any", x.put(0, 0, 60), 3);
        x.cut(0);
        x.cut(-1);
        due("-1: it is not", x.put(1, 0, 60), 3);
        x.cut(-1);
        x.cut(0);
        due("0", x.remove(0), -1);
        x.cut(5);
        x.open();
        due("told while shut", x.remove(0), -1);
        x.open();
        x.cut(1);
        x.cut(40);
        due("the last one counts", x.remove(0), 0);

        Probe y = withRow(0, 0, 60);
        y.cut(0);
        due("a refused write leaves it", y.write(0, 0), TURN);
        due("a refused one taken away leaves it", y.remove(1), TURN);
        due("a move of none leaves it", y.move(5), 0);
        y.feed(0, 1);
        y.shut();
        due("opening leaves it", y.open(), 1);
        due("then it comes", y.write(3, 0), -1);
        y.open();
        due("once", y.put(3, 0, 1), 1);
    }

    private static void cutRange() {
        Probe x = withRow(0, 0, 3);
        x.cut(39);
        for (int bytes : outside(-1, 200)) {
            refused(bytes + " bytes", x, p -> p.cut(bytes), RANGE);
        }
        due("the one told ahead stays", x.remove(0), -1);
        due("0", x.cut(0), 0);
        due("200", x.cut(200), 0);
        due("-1", x.cut(-1), 0);
        x.open();
        due("none is ahead", x.remove(0), 0);
    }

    // Promise 7

    private static void openedAgain() {
        Probe x = new Probe();
        due("none", x.open(), 0);
        for (int row = 0; row < 12; row++) {
            x.put(row, row, 1 + row);
            due("rows", x.open(), row + 1);
        }
        x.move(3);
        due("slow ones too", x.open(), 12);
        x.poke(0, 1, 255);
        due("broken ones too", x.open(), 12);
        due("it is open", x.at(0, 0), 1);
        due("opened twice", x.open(), 12);
        x.tape(Probe.pattern(9, 0));
        x.poke(2, 1, 255);
        x.poke(2, 1, 255);
        due("harmed and mended", x.open(), 12);
        due("the tape stays", x.told(4), 9);
        x.poke(2, 30, 1);
        due("by the newer table alone", x.open(), 12);
        x.remove(5);
        due("one was taken away", x.open(), 11);
        x.poke(2, 39, 1);
        due("by the older table", x.open(), 12);
        x.poke(2, 79, 1);
        due("by no table", x.open(), 0);
    }

    // Promise 8

    private static void byteOfARow() {
        int[] bytes = Probe.pattern(60, 30);
        bytes[0] = 0;
        bytes[24] = 255;
        bytes[25] = 128;
        bytes[59] = 127;
        Probe x = new Probe();
        x.tape(bytes);
        x.write(6, 0);
        x.put(7, 1, 3);
        rowIs("all of them", x, 6, bytes);
        x.move(0);
        rowIs("slow", x, 6, bytes);
        rowIs("another row", x, 7, Probe.pattern(3, 7));
    }

    private static void bytesOfARow() {
        for (int n : new int[] {1, 24, 25, 26, 50, 51, 60}) {
            due(n + " bytes", withRow(0, 0, n).row(0, -1), n);
        }
        Probe x = withRow(0, 0, 30);
        x.poke(0, 40, 1);
        x.open();
        due("broken", x.row(0, -1), 0);
        x.poke(0, 40, 1);
        x.open();
        due("mended", x.row(0, -1), 30);
        x.move(0);
        x.poke(1, 0, 1);
        x.open();
        due("a broken slow one", x.row(0, -1), 0);
    }

    private static void rowIndex() {
        Probe x = withRow(0, 0, 3);
        for (int row : outside(0, 11)) {
            refused("row " + row, x, p -> p.row(row, 0), INDEX);
            due("how many of row " + row, x.row(row, -1), INDEX);
        }
        for (int i : new int[] {-2, -3, -255, -256, Integer.MIN_VALUE}) {
            refused("byte " + i, x, p -> p.row(0, i), INDEX);
            due("byte " + i + " of one that is not there", x.row(1, i), INDEX);
        }
    }

    private static void rowTurn() {
        Probe x = withRow(0, 0, 3);
        for (int row = 1; row < 12; row++) {
            due("row " + row + " is not there", x.row(row, 0), TURN);
            due("how many of row " + row, x.row(row, -1), TURN);
        }
        x.shut();
        refused("shut", x, p -> p.row(0, 0), TURN);
        refused("shut: how many", x, p -> p.row(0, -1), TURN);
        due("shut: not there", x.row(1, 0), TURN);
        x.open();
        due("opened", x.row(0, -1), 3);
    }

    private static void rowIndexAgain() {
        for (int n : new int[] {1, 25, 26, 60}) {
            Probe x = withRow(0, 0, n);
            due("the last one of " + n, x.row(0, n - 1), Probe.pattern(n, 0)[n - 1]);
            refused("the one behind it", x, p -> p.row(0, n), INDEX);
            due("far behind it", x.row(0, Integer.MAX_VALUE), INDEX);
        }
        Probe x = withRow(0, 0, 30);
        x.poke(0, 40, 1);
        x.open();
        refused("broken: byte 0", x, p -> p.row(0, 0), INDEX);
        due("broken: byte 24, whose place is right", x.row(0, 24), INDEX);
    }

    // Promise 9

    private static void whetherItIsThere() {
        Probe x = withRow(4, 10, 26);
        for (int row = 0; row < 12; row++) {
            due("row " + row, x.at(row, 0), row == 4 ? 1 : 0);
        }
        x.move(10);
        due("slow", x.at(4, 0), 1);
        x.poke(1, 9, 1);
        x.open();
        due("broken", x.at(4, 0), 1);
        x.remove(4);
        due("taken away", x.at(4, 0), 0);
    }

    private static void whetherItIsSlow() {
        Probe x = withRow(4, 10, 26);
        due("written", x.at(4, 1), 0);
        x.move(10);
        due("moved", x.at(4, 1), 1);
        x.poke(1, 9, 1);
        x.open();
        due("broken", x.at(4, 1), 1);
        x.put(4, 10, 26);
        due("written again", x.at(4, 1), 0);
    }

    private static void itsMonth() {
        for (int month = 0; month < 12; month++) {
            Probe x = withRow(4, month, 60);
            due("month", x.at(4, 2), month);
            x.move(month);
            due("slow: month", x.at(4, 2), month);
            x.poke(1, 70, 1);
            x.open();
            due("broken: month", x.at(4, 2), -1);
        }
    }

    private static void itsPlaces() {
        for (int n : new int[] {1, 25, 26, 50, 51, 60}) {
            Probe x = withRow(4, 0, n);
            due("places of " + n, x.at(4, 3), (n + 24) / 25);
            x.move(0);
            due("slow places of " + n, x.at(4, 3), (n + 24) / 25);
        }
        for (int k = 0; k < 3; k++) {
            Probe x = withRow(4, 0, 60);
            x.poke(0, k * 32 + 9, 1);
            x.open();
            due("broken in place " + k, x.at(4, 3), k + 1);
        }
        Probe none = withRow(4, 0, 60).forge(2, 1 + 4, 25);
        none.open();
        due("there is no first place", none.at(4, 3), 0);
    }

    private static void atIndex() {
        Probe x = withRow(0, 0, 3);
        for (int what = 0; what <= 3; what++) {
            int asked = what;
            for (int row : outside(0, 11)) {
                due("row " + row, x.at(row, what), INDEX);
            }
            refused("row 12", x, p -> p.at(12, asked), INDEX);
        }
        for (int what : outside(0, 3)) {
            refused("what " + what, x, p -> p.at(0, what), INDEX);
            due("what " + what + " of one that is not there", x.at(1, what), INDEX);
        }
    }

    private static void atTurn() {
        Probe x = withRow(0, 0, 3);
        due("0 of one that is not there", x.at(1, 0), 0);
        for (int what = 1; what <= 3; what++) {
            int asked = what;
            refused(what + " of one that is not there", x, p -> p.at(1, asked), TURN);
        }
        x.shut();
        for (int what = 0; what <= 3; what++) {
            int asked = what;
            refused("shut: " + what, x, p -> p.at(0, asked), TURN);
            due("shut, not there: " + what, x.at(1, what), TURN);
        }
        x.open();
        due("opened", x.at(0, 0), 1);
    }

    // Promise 10

    private static void toldFree() {
        Probe x = new Probe();
        due("all", x.told(0), 24);
        int[] lengths = {60, 50, 25, 1};
        int[] free = {21, 19, 18, 17};
        for (int row = 0; row < 4; row++) {
            x.put(row, row, lengths[row]);
            due("behind row " + row, x.told(0), free[row]);
        }
        x.move(0);
        due("row 0 is slow", x.told(0), 20);
        x.remove(1);
        due("row 1 is gone", x.told(0), 22);
        due("none", fullFile().told(0), 0);
    }

    private static void toldSlowFree() {
        Probe x = withRow(0, 0, 60);
        x.put(1, 0, 26);
        due("all", x.told(1), 16);
        x.move(0);
        due("but five", x.told(1), 11);
        x.remove(0);
        due("but two", x.told(1), 14);
        x.put(1, 0, 26);
        due("all again", x.told(1), 16);
        Probe y = slowFileWithTwoLeft();
        due("two", y.told(1), 2);
        y.put(5, 1, 50);
        y.move(1);
        due("none", y.told(1), 0);
    }

    private static void toldNumber() {
        Probe x = new Probe();
        due("none", x.told(2), 0);
        x.put(0, 0, 3);
        due("1", x.told(2), 1);
        x.put(1, 0, 3);
        due("2", x.told(2), 2);
        x.poke(2, 79, 1);
        x.open();
        due("1 again", x.told(2), 1);
        x.poke(2, 39, 1);
        x.open();
        due("none again", x.told(2), 0);
        Probe y = withRow(0, 0, 3).forge(2, 0, 250);
        y.open();
        due("250", y.told(2), 250);
    }

    private static void toldTable() {
        Probe x = new Probe();
        due("none", x.told(3), -1);
        x.put(0, 0, 3);
        due("0", x.told(3), 0);
        x.put(1, 0, 3);
        due("1", x.told(3), 1);
        x.poke(2, 79, 1);
        x.open();
        due("0 again", x.told(3), 0);
        x.poke(2, 39, 1);
        x.open();
        due("none again", x.told(3), -1);
        x.poke(2, 79, 1);
        x.open();
        due("1 alone", x.told(3), 1);
    }

    private static void toldTape() {
        Probe x = new Probe();
        due("none", x.told(4), 0);
        x.feed(0, 5);
        due("5", x.told(4), 5);
        x.shut();
        due("also when it is shut", x.told(4), 5);
        x.open();
        x.write(0, 0);
        due("used up", x.told(4), 0);
        x.tape(Probe.pattern(60, 0));
        due("60", x.told(4), 60);
    }

    private static void toldIndex() {
        Probe x = withRow(0, 0, 3);
        for (int what : outside(0, 4)) {
            refused("what " + what, x, p -> p.told(what), INDEX);
        }
        x.shut();
        for (int what : outside(0, 4)) {
            due("shut: what " + what, x.told(what), INDEX);
        }
    }

    private static void toldTurn() {
        Probe x = withRow(0, 0, 3);
        x.shut();
        for (int what = 0; what <= 3; what++) {
            int asked = what;
            refused("shut by a poke: " + what, x, p -> p.told(asked), TURN);
        }
        due("shut by a poke: 4", x.told(4), 0);
        x.open();
        toldIs("opened", x, 23, 16, 1, 0, 0);
        x.cut(0);
        x.remove(0);
        for (int what = 0; what <= 3; what++) {
            due("shut by the power: " + what, x.told(what), TURN);
        }
        due("shut by the power: 4", x.told(4), 0);
    }

    // Promise 11

    /** The k-th ones, and none behind them. */
    private static void wrongAre(String what, Probe x, int part, int... want) {
        for (int k = 0; k < want.length; k++) {
            due(what + ": " + k, x.wrong(part, k), want[k]);
        }
        due(what + ": no more", x.wrong(part, want.length), -1);
    }

    private static void wrongPlaces() {
        Probe x = withRow(4, 0, 60);
        x.put(1, 0, 30);
        x.put(2, 1, 60);
        wrongAre("none", x, 0);
        x.poke(0, 5 * 32 + 31, 1);
        wrongAre("one", x, 0, 5);
        x.poke(0, 3 * 32 + 7, 1);
        x.poke(0, 2 * 32 + 7, 1);
        wrongAre("by numbers, not by rows", x, 0, 2, 3, 5);
        x.poke(0, 20 * 32, 1);
        wrongAre("not one that no chain goes through", x, 0, 2, 3, 5);
        x.poke(0, 6 * 32 + 7, 1);
        wrongAre("not one behind a wrong one", x, 0, 2, 3, 5);
        x.poke(0, 0, 1);
        wrongAre("place 0, and 2 is behind it", x, 0, 0, 3, 5);
        x.poke(1, 0, 1);
        wrongAre("not a slow one", x, 1);

        Probe y = fullFile();
        y.poke(0, 767, 1);
        wrongAre("place 23", y, 0, 23);
        Probe z = withRow(0, 0, 3).forge(0, 1, 0);
        wrongAre("not right, but its sum is", z, 0);
        Probe shared = withRow(0, 0, 3).forge(2, 2, 1);
        shared.poke(0, 9, 1);
        wrongAre("a place of two rows once", shared, 0, 0);
        Probe slow = withRow(0, 0, 3);
        slow.move(0);
        slow.poke(0, 9, 1);
        wrongAre("not one of a row that is slow", slow, 0);
    }

    private static void wrongSlowPlaces() {
        Probe x = withRow(0, 0, 60);
        x.put(1, 0, 60);
        x.move(0);
        wrongAre("none", x, 1);
        x.poke(1, 5 * 32, 1);
        x.poke(1, 32, 1);
        x.poke(1, 9 * 32, 1);
        wrongAre("by numbers", x, 1, 1, 5);
        x.poke(1, 0, 1);
        wrongAre("slow place 0", x, 1, 0, 5);
        wrongAre("none of the file", x, 0);
        Probe y = slowFileWithTwoLeft();
        y.put(5, 1, 50);
        y.move(1);
        y.poke(1, 511, 1);
        wrongAre("slow place 15", y, 1, 15);
        Probe file = withRow(0, 0, 3);
        file.poke(0, 9, 1);
        wrongAre("not by a row that is not slow", file, 1);
    }

    private static void wrongTables() {
        Probe x = new Probe();
        wrongAre("both are all 0", x, 2);
        x.poke(2, 50, 4);
        wrongAre("not all 0, without a number", x, 2, 1);
        x.poke(2, 0, 4);
        wrongAre("both", x, 2, 0, 1);
        x.poke(2, 50, 4);
        wrongAre("table 0", x, 2, 0);
        x.poke(2, 0, 4);
        wrongAre("all 0 again", x, 2);
        for (int i = 0; i < 80; i++) {
            x.poke(2, i, 1);
            wrongAre("byte " + i, x, 2, i / 40);
            x.poke(2, i, 1);
        }
        Probe y = withRow(0, 0, 3);
        y.put(1, 0, 3);
        wrongAre("written", y, 2);
        y.poke(2, 79, 1);
        wrongAre("harmed", y, 2, 1);
        Probe number = withRow(0, 0, 3).forge(2, 0, 251);
        wrongAre("not good, but its sum is right", number, 2);
        Probe cut = new Probe();
        cut.feed(1, 1);
        cut.cut(40);
        cut.write(0, 0);
        wrongAre("a cut one", cut, 2, 0);
    }

    private static void wrongAsItStands() {
        Probe x = withRow(0, 0, 60);
        x.put(1, 0, 60);
        x.move(0);
        x.poke(1, 0, 1);
        x.poke(1, 3 * 32, 1);
        wrongAre("shut", x, 1, 0, 3);
        x.open();
        wrongAre("opened", x, 1, 0, 3);
        x.poke(2, 40 + 5, 1);
        wrongAre("shut: the newer table is wrong", x, 2, 1);
        wrongAre("shut: by the older one row 0 alone is slow", x, 1, 0);
        x.poke(0, 3 * 32, 1);
        wrongAre("shut: by the older one row 1 is not", x, 0, 3);
        x.poke(2, 5, 1);
        wrongAre("shut: by no table", x, 1);
        wrongAre("shut: by no table", x, 0);
        x.poke(2, 5, 1);
        x.poke(2, 40 + 5, 1);
        wrongAre("shut: by the newer one again", x, 1, 0, 3);
        x.poke(1, 0, 1);
        wrongAre("shut: mended", x, 1, 3);

        Probe cut = withRow(0, 0, 60);
        cut.poke(0, 9, 1);
        cut.open();
        cut.cut(0);
        cut.remove(0);
        wrongAre("shut by the power", cut, 0, 0);
    }

    private static void wrongNotSoMany() {
        Probe x = withRow(0, 0, 60);
        for (int what = 0; what < 3; what++) {
            due("none of " + what, x.wrong(what, 0), -1);
            due("none of many of " + what, x.wrong(what, Integer.MAX_VALUE), -1);
        }
        x.poke(0, 0, 1);
        x.poke(2, 0, 1);
        x.poke(2, 0, 1);
        due("one", x.wrong(0, 0), 0);
        due("not two", x.wrong(0, 1), -1);
        due("not many", x.wrong(0, Integer.MAX_VALUE), -1);
        x.poke(2, 0, 1);
        due("one table", x.wrong(2, 0), 0);
        due("not two tables", x.wrong(2, 1), -1);
    }

    private static void wrongIndex() {
        Probe x = withRow(0, 0, 60);
        x.poke(0, 0, 1);
        x.open();
        for (int what : outside(0, 2)) {
            refused("what " + what, x, p -> p.wrong(what, 0), INDEX);
        }
        for (int k : new int[] {-1, -2, -256, Integer.MIN_VALUE}) {
            for (int what = 0; what < 3; what++) {
                due("k " + k + " of " + what, x.wrong(what, k), INDEX);
            }
            refused("k " + k, x, p -> p.wrong(0, k), INDEX);
        }
        x.shut();
        due("shut: what", x.wrong(3, 0), INDEX);
        due("shut: k", x.wrong(0, -1), INDEX);
    }

    // Promise 12

    private static void bytesOfTheFile() {
        Probe x = new Probe();
        for (int what = 0; what < 3; what++) {
            for (int i : new int[] {0, 31, 32, Probe.size(what) - 1}) {
                due("byte " + i + " of " + what, x.byteAt(what, i), 0);
                x.poke(what, i, 255 - what);
                due("byte " + i + " of " + what + " as it stands", x.byteAt(what, i), 255 - what);
            }
        }
        Probe y = new Probe();
        y.feed(0xFF41, 2);
        y.write(1, 7);
        bytesAre("a place", y.bytes(0, 0, 6), new int[] {0, 2, 7, 255, 65, 0});
        bytesAre("a table", y.bytes(2, 0, 4), new int[] {1, 0, 1, 0});
        y.move(7);
        bytesAre("a slow place", y.bytes(1, 0, 6), new int[] {0, 2, 7, 255, 65, 0});
        due("the table that is slow", y.byteAt(2, 40 + 13 + 1), 1);
        y.shut();
        due("also when it is shut", y.byteAt(1, 3), 255);
    }

    private static void byteAtIndex() {
        Probe x = withRow(0, 0, 60);
        for (int what = 0; what < 3; what++) {
            int part = what;
            int size = Probe.size(what);
            due("the first of " + what, x.byteAt(what, 0), what == 1 ? 0 : what == 0 ? 2 : 1);
            for (int i : outside(0, size - 1)) {
                refused("byte " + i + " of " + what, x, p -> p.byteAt(part, i), INDEX);
            }
        }
        for (int what : outside(0, 2)) {
            refused("what " + what, x, p -> p.byteAt(what, 0), INDEX);
        }
    }

    // Promise 13

    private static void xoredByAMask() {
        for (int what = 0; what < 3; what++) {
            Probe x = withRow(0, 0, 60);
            int last = Probe.size(what) - 1;
            for (int i : new int[] {0, last}) {
                int[] want = x.part(what);
                for (int mask : new int[] {1, 0xA5, 255}) {
                    due("mask " + mask, x.poke(what, i, mask), 0);
                    want[i] ^= mask;
                    partIs("byte " + i + " alone, by mask " + mask, x, what, want);
                }
            }
        }
        Probe x = withRow(0, 0, 60);
        int[] places = x.part(0);
        x.poke(1, 40, 7);
        partIs("a slow byte is not the file's", x, 0, places);
        x.poke(0, 40, 7);
        x.poke(0, 40, 7);
        partIs("twice is as it was", x, 0, places);
    }

    private static void shutByAPoke() {
        for (int what = 0; what < 3; what++) {
            Probe x = withRow(0, 0, 60);
            x.feed(1, 1);
            x.poke(what, Probe.size(what) - 1, 1);
            due("told", x.told(0), TURN);
            due("write", x.write(0, 0), TURN);
            due("remove", x.remove(0), TURN);
            due("move", x.move(0), TURN);
            due("row", x.row(0, 0), TURN);
            due("at", x.at(0, 0), TURN);
            due("a poke of a shut file", x.poke(what, 0, 1), 0);
            due("still shut", x.told(0), TURN);
            x.poke(what, 0, 1);
            due("opened", x.open(), 1);
        }
    }

    private static void pokeIndex() {
        Probe x = withRow(0, 0, 60);
        for (int what = 0; what < 3; what++) {
            int part = what;
            for (int i : outside(0, Probe.size(what) - 1)) {
                refused("byte " + i + " of " + what, x, p -> p.poke(part, i, 1), INDEX);
            }
        }
        for (int what : outside(0, 2)) {
            refused("what " + what, x, p -> p.poke(what, 0, 1), INDEX);
        }
        due("not shut by these", x.told(0), 21);
    }

    private static void pokeRange() {
        Probe x = withRow(0, 0, 60);
        for (int what = 0; what < 3; what++) {
            int part = what;
            for (int mask : outside(1, 255)) {
                refused("mask " + mask, x, p -> p.poke(part, 0, mask), RANGE);
            }
        }
        due("not shut by these", x.told(0), 21);
        due("mask 1", x.poke(0, 0, 1), 0);
        due("mask 255", x.poke(0, 0, 255), 0);
        due("both", x.byteAt(0, 0), 2 ^ 1 ^ 255);
    }
}
