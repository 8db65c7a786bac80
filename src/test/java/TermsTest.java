import java.lang.management.ManagementFactory;
import java.lang.reflect.Field;
import java.lang.reflect.Modifier;
import java.util.Arrays;

/** A test for each sentence of the document's sections "What it is" and "Terms", by its own words. */
public final class TermsTest extends Bench {
    public static void main(String[] args) {
        whatItIs();
        section("Terms");
        checks();
        placesAndRows();
        tables();
        writes();
        cutsAndOpening();
        chains();
        moving();
        end();
    }

    private static void whatItIs() {
        section("What it is");
        test("A file of rows in pages: a table of places in one of two small blocks, changed pages written to free"
                + " places, the table turned by one block, rows longer than a page in chains, a sum for each page,"
                + " writing cut at any byte and opened again, months moved to a slow file, free places by counts.",
                TermsTest::allOfItInOneRun);
        test("An object is used for at most 512 calls after it has been made; what later calls answer is free.",
                TermsTest::call512IsAnswered);
    }

    private static void checks() {
        test("Checks are made in this order: index: IndexOutOfBoundsException; call out of turn:"
                + " IllegalStateException; range: IllegalArgumentException; meaning (no room, what can't be):"
                + " UnsupportedOperationException.", TermsTest::orderOfChecks);
        test("What is refused changes nothing.", TermsTest::refusedChangesNothing);
    }

    private static void placesAndRows() {
        test("THE FILE has 24 PLACES of 32 bytes (0 at first), two TABLES of 40 bytes (0 at first).",
                TermsTest::theFile);
        test("THE SLOW FILE has 16 places of 32 bytes.", TermsTest::theSlowFile);
        test("A place's bytes 0 .. 27 hold; its last four are its SUM, the highest byte first: s = 0; for each of"
                + " bytes 0 .. 27: s = rotl(s xor the byte, 23) * 0x9E3779B1 (ints, rotl: turned to the left by so"
                + " many bits).", TermsTest::sumOfAPlace);
        test("ROWS 0 .. 11 have a MONTH (0 .. 11) and BYTES (1 .. 60), or are not there.", TermsTest::rowsThatCanBe);
        test("A row's bytes stand in a CHAIN of places: each has in byte 0 the next place and 1 (0: the last one),",
                TermsTest::linksOfAChain);
        test("in byte 1 how many bytes of the row it holds (1 .. 25),", TermsTest::bytesThatAPlaceHolds);
        test("in byte 2 the month,", TermsTest::monthOfEachPlace);
        test("then these bytes, 0 behind them;", TermsTest::zerosBehindTheBytes);
        test("all but the last one hold 25.", TermsTest::allButTheLastAreFull);
    }

    private static void tables() {
        test("A TABLE: byte 0 its NUMBER (1 .. 250; 0: none),", TermsTest::numbersUpTo250);
        test("bytes 1 .. 12 for rows 0 .. 11 the first place and 1 (0: it is not there, or SLOW),",
                TermsTest::firstPlacesInTheTable);
        test("bytes 13 .. 24 for rows the first place in the slow file and 1 (0: not slow),",
                TermsTest::firstSlowPlacesInTheTable);
        test("bytes 25 .. 35 are 0;", TermsTest::restOfTheTableIsZero);
        test("its last four its sum, as above over bytes 0 .. 35.", TermsTest::sumOfATable);
        test("A table whose sum is right and whose number is 1 .. 250 is GOOD.", TermsTest::goodTables);
        test("THE TABLE that counts is the good one;", TermsTest::theGoodTableCounts);
        test("of two good ones that with the number that comes behind the other's (1 behind 250),",
                TermsTest::theNextNumberCounts);
        test("table 0 when neither does.", TermsTest::tableZeroWhenNeitherIsNext);
        test("A row is slow when its byte for the slow file is not 0.", TermsTest::slowByItsByteAlone);
    }

    private static void writes() {
        test("A WRITE of a row, or taking one away, goes so: the row's places are taken from the lowest free ones on"
                + " (by the table that counts),", TermsTest::lowestFreePlaces);
        test("written one behind the other,", TermsTest::placesInOrder);
        test("then the other table (table 0 when none counts),", TermsTest::theOtherTable);
        test("with the next number (1 at first)", TermsTest::theNextNumber);
        test("and the row's new first place: at the end the row is the new one.", TermsTest::theRowIsTheNewOne);
        test("FREE are places that no chain of the table that counts goes through.", TermsTest::freePlaces);
    }

    private static void cutsAndOpening() {
        test("A CUT is told ahead: of the next write, when it has more bytes than that (each place's 32 in order,"
                + " then the table's 40), only so many come into the file, then the power fails: the file is SHUT;",
                TermsTest::cutBehindEachByte);
        test("a write of no more bytes is whole.", TermsTest::noMoreBytesThanTheCut);
        test("In each case the cut is over.", TermsTest::theCutIsOver);
        test("Opened again, the file is by its tables as they stand;", TermsTest::openedByItsTables);
        test("without a good one there are no rows.", TermsTest::openedWithoutATable);
    }

    private static void chains() {
        test("GOING THROUGH a chain: from its first place on, place by place;", TermsTest::placeByPlace);
        test("it ends where there is no such place,", TermsTest::noSuchPlace);
        test("at one that it went through already,", TermsTest::wentThroughAlready);
        test("or behind three;", TermsTest::behindThree);
        test("it goes on from a place only when that one is RIGHT: its sum is,", TermsTest::notBehindAWrongSum);
        test("it holds 1 to 25 bytes,", TermsTest::notBehindAPlaceThatHoldsNone);
        test("its month is that of the first.", TermsTest::notBehindAnotherMonth);
        test("A chain is BROKEN when it does not end at a right place that says it is the last one: its row has no"
                + " bytes and no month then.", TermsTest::brokenChains);
        test("Places that are gone through are not free.", TermsTest::placesOfBrokenChains);
    }

    private static void moving() {
        test("MOVING a month: all rows of it that are not slow, by numbers, each by a write of its own:",
                TermsTest::rowsThatMove);
        test("its chain is written to the lowest free places of the slow file (free there are those that no slow"
                + " chain goes through),", TermsTest::lowestFreeSlowPlaces);
        test("then the table, where it is slow then.", TermsTest::slowInTheTable);
        test("(A cut counts its bytes likewise, those of the slow file's places first.)", TermsTest::cutsOfAMove);
        test("All memory is rows made once.", TermsTest::memoryMadeOnce);
    }

    // Files that several tests begin with

    /** Row 0 in places 0 and 1, row 1 in 2 and 3, row 2 in 4, all of month 1; number 3 in table 0. */
    private static Probe threeRows() {
        Probe x = new Probe();
        x.put(0, 1, 40);
        x.put(1, 1, 30);
        x.put(2, 1, 5);
        return x;
    }

    /** Row 0 of month 2 in places 0, 1 and 2. */
    private static Probe longRow() {
        Probe x = new Probe();
        x.put(0, 2, 60);
        return x;
    }

    /** Rows 1 and 3 in places 1 and 3; free are 0, 2, and from 4 on. */
    private static Probe withGaps() {
        Probe x = new Probe();
        for (int row = 0; row < 4; row++) {
            x.put(row, 1, 1);
        }
        x.remove(0);
        x.remove(2);
        return x;
    }

    private static Probe fullFile() {
        Probe x = new Probe();
        for (int row = 0; row < 8; row++) {
            x.put(row, 1, 60);
        }
        return x;
    }

    /** Rows 0 to 5 of month 2 in all places of the slow file; number 12 in table 1. */
    private static Probe fullSlowFile() {
        Probe x = new Probe();
        for (int row = 0; row < 5; row++) {
            x.put(row, 2, 60);
        }
        x.put(5, 2, 1);
        x.move(2);
        return x;
    }

    /** Row 0 is slow, in slow places 0 and 1, and its byte for the file names place 0; row 1 has place 2. */
    private static Probe namedInBoth() {
        Probe x = new Probe();
        x.put(0, 4, 30);
        x.put(1, 5, 3);
        x.move(4);
        x.forge(2, 1, 1);
        x.open();
        return x;
    }

    /** By the table that counts. */
    private static int tableByte(Probe x, int i) {
        return x.byteAt(2, x.told(3) * 40 + i);
    }

    // What it is

    private static void allOfItInOneRun() {
        Probe x = new Probe();
        due("a row longer than a page", x.put(0, 3, 60), 3);
        due("a table", x.told(3), 0);
        due("changed", x.put(0, 3, 30), 2);
        due("in free places", tableByte(x, 1), 4);
        due("the table is turned", x.told(3), 1);
        x.tape(Probe.pattern(26, 9));
        x.cut(70);
        due("cut", x.write(0, 4), -1);
        due("opened again", x.open(), 1);
        rowIs("the row as it was", x, 0, Probe.pattern(30, 0));
        due("moved", x.move(3), 1);
        rowIs("the row in the slow file", x, 0, Probe.pattern(30, 0));
        toldIs("at the end", x, 24, 14, 3, 0, 0);
        x.poke(1, 32 + 3, 1);
        due("a sum for each page", x.wrong(1, 0), 1);
    }

    private static void call512IsAnswered() {
        Probe x = new Probe();
        for (int n = 1; n <= 255; n++) {
            x.feed(n, 1);
            due("write " + n, x.write(n % 12, n % 12), 1);
        }
        due("call 511", x.told(2), 5);
        due("call 512", x.row(3, 0), 255);
        due("calls", x.calls(), 512);
    }

    // The checks

    private static void orderOfChecks() {
        orderOfChecksOfWrite();
        orderOfChecksOfChanges();
        orderOfChecksOfQuestions();
    }

    private static void orderOfChecksOfWrite() {
        Probe x = fullFile();
        due("write: index ahead of turn", x.write(12, 0), INDEX);
        due("write: index ahead of turn and range", x.write(-1, 12), INDEX);
        due("write: turn ahead of range", x.write(0, 12), TURN);
        x.feed(1, 1);
        due("write: index ahead of range", x.write(12, -1), INDEX);
        due("write: index ahead of meaning", x.write(12, 0), INDEX);
        due("write: range ahead of meaning", x.write(0, 12), RANGE);
        due("write: meaning", x.write(0, 0), MEANING);
        x.shut();
        due("write: index ahead of a shut file", x.write(12, 12), INDEX);
        due("write: a shut file ahead of range", x.write(0, 12), TURN);
        due("write: a shut file ahead of meaning", x.write(0, 0), TURN);
    }

    private static void orderOfChecksOfChanges() {
        Probe x = fullSlowFile();
        x.put(6, 2, 1);
        due("remove: index ahead of turn", x.remove(12), INDEX);
        due("move: meaning", x.move(2), MEANING);
        x.shut();
        due("remove: index ahead of a shut file", x.remove(-1), INDEX);
        due("move: turn ahead of range", x.move(12), TURN);
        due("move: turn ahead of meaning", x.move(2), TURN);
        x.tape(Probe.pattern(60, 0));
        due("feed: range ahead of meaning, n 9", x.feed(1, 9), RANGE);
        due("feed: range ahead of meaning, n 0", x.feed(1, 0), RANGE);
        due("feed: meaning", x.feed(1, 8), MEANING);
        due("poke: index ahead of range", x.poke(0, 768, 0), INDEX);
        due("poke: index ahead of range, what", x.poke(3, 0, 256), INDEX);
        due("poke: range", x.poke(2, 79, 256), RANGE);
    }

    private static void orderOfChecksOfQuestions() {
        Probe x = longRow();
        due("row: index ahead of turn", x.row(12, 0), INDEX);
        due("row: index ahead of turn, i", x.row(5, -2), INDEX);
        due("row: turn ahead of the second index", x.row(5, 60), TURN);
        due("row: the second index", x.row(0, 60), INDEX);
        due("at: index ahead of turn", x.at(5, 4), INDEX);
        due("at: turn", x.at(5, 3), TURN);
        x.shut();
        due("row: index ahead of a shut file", x.row(-1, 0), INDEX);
        due("row: index ahead of a shut file, i", x.row(0, -2), INDEX);
        due("row: a shut file ahead of the second index", x.row(0, 60), TURN);
        due("at: index ahead of a shut file, row", x.at(12, 0), INDEX);
        due("at: index ahead of a shut file, what", x.at(0, -1), INDEX);
        due("at: a shut file", x.at(0, 0), TURN);
        due("told: index ahead of a shut file", x.told(5), INDEX);
        due("told: index ahead of a shut file, below", x.told(-1), INDEX);
        due("told: a shut file", x.told(0), TURN);
    }

    private static void refusedChangesNothing() {
        refusedWhileOpen();
        refusedForWantOfRoom();
        refusedWhileShut();
    }

    /** With bytes on the tape and a cut ahead, which stay too. */
    private static void refusedWhileOpen() {
        Probe x = threeRows();
        x.cut(50);
        refused("write: the tape is empty", x, p -> p.write(0, 0), TURN);
        x.tape(Probe.pattern(9, 77));
        refused("write: no such row", x, p -> p.write(12, 0), INDEX);
        refused("write: no such month", x, p -> p.write(0, 12), RANGE);
        refused("feed: none", x, p -> p.feed(-1, 0), RANGE);
        refused("feed: nine", x, p -> p.feed(-1, 9), RANGE);
        refused("remove: no such row", x, p -> p.remove(-1), INDEX);
        refused("remove: not there", x, p -> p.remove(3), TURN);
        refused("move: no such month", x, p -> p.move(12), RANGE);
        refused("cut: -2", x, p -> p.cut(-2), RANGE);
        refused("cut: 201", x, p -> p.cut(201), RANGE);
        refused("row: no such row", x, p -> p.row(12, 0), INDEX);
        refused("row: not there", x, p -> p.row(3, 0), TURN);
        refused("row: no such byte", x, p -> p.row(0, 40), INDEX);
        refused("at: no such what", x, p -> p.at(0, 4), INDEX);
        refused("at: not there", x, p -> p.at(3, 2), TURN);
        refused("told: no such what", x, p -> p.told(5), INDEX);
        refused("wrong: no such what", x, p -> p.wrong(3, 0), INDEX);
        refused("wrong: k", x, p -> p.wrong(0, -1), INDEX);
        refused("byteAt: none such", x, p -> p.byteAt(2, 80), INDEX);
        refused("poke: none such", x, p -> p.poke(1, 512, 1), INDEX);
        refused("poke: no such mask", x, p -> p.poke(1, 0, 256), RANGE);
        refused("poke: an empty mask", x, p -> p.poke(1, 0, 0), RANGE);
    }

    private static void refusedForWantOfRoom() {
        Probe x = fullFile();
        x.tape(Probe.pattern(60, 77));
        x.cut(10);
        refused("feed: more than 60", x, p -> p.feed(-1, 1), MEANING);
        refused("write: a new row into a full file", x, p -> p.write(8, 0), MEANING);
        refused("write: a row again into a full file", x, p -> p.write(0, 0), MEANING);
        Probe y = fullSlowFile();
        y.put(6, 2, 25);
        y.cut(10);
        refused("move: into a full slow file", y, p -> p.move(2), MEANING);
    }

    private static void refusedWhileShut() {
        Probe x = threeRows();
        x.tape(Probe.pattern(9, 77));
        x.cut(50);
        x.shut();
        refused("write", x, p -> p.write(0, 0), TURN);
        refused("remove", x, p -> p.remove(0), TURN);
        refused("move", x, p -> p.move(1), TURN);
        refused("row", x, p -> p.row(0, 0), TURN);
        refused("at", x, p -> p.at(0, 0), TURN);
        refused("told", x, p -> p.told(3), TURN);
        refused("poke", x, p -> p.poke(0, 0, -1), RANGE);
    }

    // Places and rows

    private static void theFile() {
        Probe x = new Probe();
        partIs("at first", x, 0, new int[24 * 32]);
        partIs("at first", x, 2, new int[2 * 40]);
        due("no place 24", x.byteAt(0, 24 * 32), INDEX);
        due("no table 2", x.byteAt(2, 2 * 40), INDEX);
        due("24 are free", x.told(0), 24);
        Probe y = fullFile();
        due("24 are used", y.told(0), 0);
        due("the last one is place 23", y.byteAt(0, 22 * 32), 24);
        due("place 23 holds the end of row 7", y.byteAt(0, 23 * 32 + 3 + 9), Probe.pattern(60, 7)[59]);
    }

    private static void theSlowFile() {
        Probe x = new Probe();
        partIs("at first", x, 1, new int[16 * 32]);
        due("no slow place 16", x.byteAt(1, 16 * 32), INDEX);
        due("16 are free", x.told(1), 16);
        Probe y = fullSlowFile();
        due("16 are used", y.told(1), 0);
        due("row 5 has slow place 15", tableByte(y, 13 + 5), 16);
        due("slow place 15 holds its byte", y.byteAt(1, 15 * 32 + 3), Probe.pattern(1, 5)[0]);
    }

    private static void sumOfAPlace() {
        Probe x = new Probe();
        x.feed(0x41, 1);
        x.write(0, 0);
        bytesAre("a row of one byte", x.bytes(0, 28, 4), new int[] {0xF1, 0x03, 0xC0, 0x0B});
        Probe y = new Probe();
        for (int k = 0; k < 5; k++) {
            y.feed(-1, 5);
        }
        y.write(0, 11);
        bytesAre("25 bytes of 255", y.bytes(0, 28, 4), new int[] {0xE9, 0xAA, 0x8C, 0x1A});
        y.move(11);
        bytesAre("the same in the slow file", y.bytes(1, 28, 4), new int[] {0xE9, 0xAA, 0x8C, 0x1A});
        for (int i = 0; i < 32; i++) {
            eachBitIsInTheSum(i);
        }
    }

    private static void eachBitIsInTheSum(int i) {
        Probe x = new Probe();
        x.put(0, 3, 25);
        x.put(1, 4, 25);
        x.move(4);
        for (int bit = 0; bit < 8; bit++) {
            for (int part = 0; part < 2; part++) {
                String what = "part " + part + ", byte " + i + ", bit " + bit;
                x.poke(part, i, 1 << bit);
                due(what, x.wrong(part, 0), 0);
                x.poke(part, i, 1 << bit);
                due(what + " taken back", x.wrong(part, 0), -1);
            }
        }
    }

    private static void rowsThatCanBe() {
        Probe x = new Probe();
        int[] lengths = {1, 5, 10, 15, 20, 24, 25, 26, 35, 49, 50, 60};
        for (int row = 0; row < 12; row++) {
            due("not there", x.at(row, 0), 0);
            x.put(row, 11 - row, lengths[row]);
            due("there", x.at(row, 0), 1);
            due("month", x.at(row, 2), 11 - row);
        }
        for (int row = 0; row < 12; row++) {
            rowIs("row " + row, x, row, Probe.pattern(lengths[row], row));
        }
        due("no bytes", x.write(0, 0), TURN);
        x.tape(Probe.pattern(60, 0));
        due("61 bytes", x.feed(0, 1), MEANING);
        for (int row : outside(0, 11)) {
            due("row " + row, x.write(row, 0), INDEX);
        }
        for (int month : outside(0, 11)) {
            due("month " + month, x.write(0, month), RANGE);
        }
    }

    private static void linksOfAChain() {
        Probe x = withGaps();
        due("three places", x.put(4, 5, 60), 3);
        due("first place 0", tableByte(x, 1 + 4), 1);
        due("then place 2", x.byteAt(0, 0), 3);
        due("then place 4", x.byteAt(0, 2 * 32), 5);
        due("which is the last", x.byteAt(0, 4 * 32), 0);
        rowIs("its bytes", x, 4, Probe.pattern(60, 4));
        Probe y = fullFile();
        due("place 22 behind 21", y.byteAt(0, 21 * 32), 23);
        due("place 23 behind 22", y.byteAt(0, 22 * 32), 24);
        due("place 23 is the last", y.byteAt(0, 23 * 32), 0);
        Probe z = fullSlowFile();
        due("slow place 14 behind 13", z.byteAt(1, 13 * 32), 15);
        due("slow place 14 is the last", z.byteAt(1, 14 * 32), 0);
        due("slow place 15 is the only one", z.byteAt(1, 15 * 32), 0);
    }

    private static void bytesThatAPlaceHolds() {
        for (int n = 1; n <= 60; n++) {
            Probe x = new Probe();
            int places = x.put(0, 0, n);
            due("places of " + n, places, n <= 25 ? 1 : n <= 50 ? 2 : 3);
            x.move(0);
            for (int k = 0; k < 3; k++) {
                int held = Math.max(0, Math.min(25, n - 25 * k));
                due("place " + k + " of " + n, x.byteAt(0, k * 32 + 1), held);
                due("slow place " + k + " of " + n, x.byteAt(1, k * 32 + 1), held);
            }
        }
    }

    private static void monthOfEachPlace() {
        for (int month = 0; month < 12; month++) {
            Probe x = new Probe();
            x.put(0, month, 60);
            x.move(month);
            for (int k = 0; k < 3; k++) {
                due("month " + month + " in place " + k, x.byteAt(0, k * 32 + 2), month);
                due("month " + month + " in slow place " + k, x.byteAt(1, k * 32 + 2), month);
            }
        }
    }

    private static void zerosBehindTheBytes() {
        Probe x = new Probe();
        x.put(0, 7, 25);
        x.put(0, 7, 25);
        x.put(0, 7, 3);
        due("place 0 again", tableByte(x, 1), 1);
        int[] want = new int[768];
        Probe.setPlace(want, 0, 0, 7, Probe.pattern(3, 0), 0, 3);
        Probe.setPlace(want, 1, 0, 7, Probe.pattern(25, 0), 0, 25);
        partIs("over a longer one", x, 0, want);

        Probe y = longRow();
        int[] laidOut = new int[768];
        Probe.setPlace(laidOut, 0, 2, 2, Probe.pattern(60, 0), 0, 25);
        Probe.setPlace(laidOut, 1, 3, 2, Probe.pattern(60, 0), 25, 25);
        Probe.setPlace(laidOut, 2, 0, 2, Probe.pattern(60, 0), 50, 10);
        partIs("three places", y, 0, laidOut);
        y.move(2);
        partIs("three slow places", y, 1, Arrays.copyOf(laidOut, 512));
    }

    private static void allButTheLastAreFull() {
        for (int n = 26; n <= 60; n++) {
            Probe x = new Probe();
            int places = x.put(0, 0, n);
            for (int k = 0; k < places; k++) {
                boolean last = x.byteAt(0, k * 32) == 0;
                due("place " + k + " of " + n + " is the last", last ? 1 : 0, k == places - 1 ? 1 : 0);
                due("place " + k + " of " + n, x.byteAt(0, k * 32 + 1), last ? n - 25 * (places - 1) : 25);
            }
        }
    }

    // Tables

    private static void numbersUpTo250() {
        Probe x = new Probe();
        due("none at first", x.byteAt(2, 0) + x.byteAt(2, 40) + x.told(2), 0);
        for (int n = 2; n <= 250; n += 2) {
            x.feed(n, 1);
            x.write(0, 0);
            x.remove(0);
        }
        due("250", x.told(2), 250);
        due("250 in table 1", x.byteAt(2, 40), 250);
        due("249 in table 0", x.byteAt(2, 0), 249);
        x.feed(77, 1);
        due("a write behind 250", x.write(5, 3), 1);
        due("1 behind 250", x.told(2), 1);
        due("1 in table 0", x.byteAt(2, 0), 1);
        due("table 0 counts", x.told(3), 0);
        due("the row is there", x.row(5, 0), 77);
        due("opened", x.open(), 1);
        x.remove(5);
        due("2 behind 1", x.told(2), 2);
        due("2 in table 1", x.byteAt(2, 40), 2);
        due("the row is gone", x.open(), 0);
    }

    private static void firstPlacesInTheTable() {
        Probe x = new Probe();
        due("none at first", x.byteAt(2, 12), 0);
        for (int row = 11; row >= 0; row--) {
            x.put(row, row % 2, 1);
        }
        int[] want = new int[40];
        want[0] = 12;
        for (int row = 0; row < 12; row++) {
            want[1 + row] = 12 - row;
        }
        Probe.setSum(want, 0, 40);
        bytesAre("the first places", x.bytes(2, 40, 40), want);
        x.remove(4);
        due("row 4 is not there", x.byteAt(2, 1 + 4), 0);
        due("row 0 is", x.byteAt(2, 1), 12);
        due("row 11 is", x.byteAt(2, 12), 1);
        x.move(1);
        for (int row = 0; row < 12; row++) {
            boolean gone = row == 4 || row % 2 == 1;
            due("row " + row + ", odd ones slow", tableByte(x, 1 + row), gone ? 0 : 12 - row);
        }
    }

    private static void firstSlowPlacesInTheTable() {
        Probe x = new Probe();
        for (int row = 11; row >= 0; row--) {
            x.put(row, row % 2, row == 1 ? 60 : 1);
        }
        for (int row = 0; row < 12; row++) {
            due("row " + row + " is not slow", tableByte(x, 13 + row), 0);
        }
        x.move(1);
        int[] want = {0, 1, 0, 4, 0, 5, 0, 6, 0, 7, 0, 8};
        for (int row = 0; row < 12; row++) {
            due("row " + row + ", odd ones slow", tableByte(x, 13 + row), want[row]);
        }
        x.remove(11);
        due("row 11 taken away", tableByte(x, 24), 0);
        x.put(3, 0, 1);
        due("row 3 written again", tableByte(x, 13 + 3), 0);
        due("row 5 stays", tableByte(x, 13 + 5), 5);
    }

    private static void restOfTheTableIsZero() {
        bytesAre("written", longRow().bytes(2, 25, 11), new int[11]);
        Call[] changes = {p -> p.remove(2), p -> p.put(4, 0, 30), p -> p.move(1)};
        for (Call change : changes) {
            Probe x = threeRows();
            x.forge(2, 25, 9, 1, 2, 3, 4, 255, 6, 7, 8, 128, 5);
            due("it counts all the same", x.open(), 3);
            due("by its number", x.told(2), 3);
            change.on(x);
            bytesAre("the next table", x.bytes(2, 40 + 25, 11), new int[11]);
            due("its sum", x.wrong(2, 0), -1);
        }
    }

    private static void sumOfATable() {
        Probe x = new Probe();
        x.feed(0x41, 1);
        x.write(0, 0);
        bytesAre("number 1 and row 0", x.bytes(2, 36, 4), new int[] {0x66, 0xE9, 0x90, 0xE0});
        x.remove(0);
        bytesAre("number 2 and no row", x.bytes(2, 76, 4), new int[] {0x87, 0x41, 0x6A, 0x9D});
        for (int i = 0; i < 40; i++) {
            Probe y = longRow();
            for (int bit = 0; bit < 8; bit++) {
                String what = "byte " + i + ", bit " + bit;
                y.poke(2, i, 1 << bit);
                due(what, y.wrong(2, 0), 0);
                due(what + ": no good table", y.open(), 0);
                y.poke(2, i, 1 << bit);
                due(what + " taken back", y.wrong(2, 0), -1);
                due(what + ": a good table", y.open(), 1);
            }
        }
    }

    private static void goodTables() {
        for (int number : new int[] {1, 2, 127, 128, 249, 250}) {
            Probe x = longRow().forge(2, 0, number);
            due("number " + number, x.open(), 1);
            due("number " + number + " is told", x.told(2), number);
            due("its table", x.told(3), 0);
            x.poke(2, 36, 1);
            due("a wrong sum", x.open(), 0);
            due("a wrong sum: no number", x.told(2), 0);
        }
        for (int number : new int[] {0, 251, 252, 255}) {
            Probe x = longRow().forge(2, 0, number);
            due("number " + number, x.open(), 0);
            due("number " + number + " is not told", x.told(2), 0);
            due("no table", x.told(3), -1);
            due("its sum is right", x.wrong(2, 0), -1);
        }
    }

    private static void theGoodTableCounts() {
        Probe x = new Probe();
        x.put(0, 0, 3);
        x.put(1, 0, 3);
        x.poke(2, 79, 1);
        due("table 0 alone", x.open(), 1);
        due("number of table 0", x.told(2), 1);
        due("table 0", x.told(3), 0);
        x.poke(2, 79, 1);
        x.poke(2, 39, 1);
        due("table 1 alone", x.open(), 2);
        due("number of table 1", x.told(2), 2);
        due("table 1", x.told(3), 1);
        tableOf(0, 7, 1);
        tableOf(7, 0, 0);
        tableOf(251, 1, 1);
        tableOf(250, 251, 0);
        tableOf(255, 0, -1);
    }

    private static void theNextNumberCounts() {
        tableOf(1, 2, 1);
        tableOf(2, 1, 0);
        tableOf(127, 128, 1);
        tableOf(128, 127, 0);
        tableOf(249, 250, 1);
        tableOf(250, 249, 0);
        tableOf(250, 1, 1);
        tableOf(1, 250, 0);
    }

    private static void tableZeroWhenNeitherIsNext() {
        int[][] numbers = {{1, 1}, {1, 3}, {3, 1}, {5, 5}, {250, 250}, {250, 2}, {2, 250}, {249, 1}, {1, 249}};
        for (int[] pair : numbers) {
            tableOf(pair[0], pair[1], 0);
        }
    }

    /** Row 0 stands in both tables, row 1 in table 1 alone. */
    private static void tableOf(int number0, int number1, int counts) {
        String what = "numbers " + number0 + " and " + number1;
        Probe x = new Probe();
        x.put(0, 0, 3);
        x.put(1, 0, 3);
        x.forge(2, 0, number0);
        x.forge(2, 40, number1);
        due(what + ": rows", x.open(), counts + 1);
        due(what + ": table", x.told(3), counts);
        int number = counts == 0 ? number0 : counts == 1 ? number1 : 0;
        due(what + ": number", x.told(2), number);
        due(what + ": free", x.told(0), 23 - counts);
        x.put(2, 0, 3);
        due(what + ": written to the other one", x.told(3), counts == 0 ? 1 : 0);
        due(what + ": with the next number", x.told(2), number == 250 ? 1 : number + 1);
    }

    private static void slowByItsByteAlone() {
        Probe x = namedInBoth();
        due("slow", x.at(0, 1), 1);
        rowIs("its slow chain", x, 0, Probe.pattern(30, 0));
        toldIs("place 0 is free", x, 23, 14, 3, 0, 0);
        due("it is not moved again", x.move(4), 0);
        x.poke(0, 7, 1);
        due("no chain goes through place 0", x.wrong(0, 0), -1);
        x.poke(1, 7, 1);
        due("its chain goes through slow place 0", x.wrong(1, 0), 0);

        Probe y = namedInBoth().forge(2, 13, 200);
        y.open();
        due("no such slow place", y.at(0, 1), 1);
        brokenIs("no such slow place", y, 0, 0);
        toldIs("no such slow place", y, 23, 16, 3, 0, 0);

        Probe z = namedInBoth().forge(2, 1, 3);
        z.open();
        due("place 2 is row 1's still", z.told(0), 23);
        z.put(3, 0, 60);
        due("and is not taken", z.byteAt(0, 32), 4);
        due("not slow without it", z.at(1, 1), 0);
    }

    // Writes

    private static void lowestFreePlaces() {
        Probe x = withGaps();
        x.put(5, 0, 1);
        due("place 0", tableByte(x, 1 + 5), 1);
        x.put(5, 0, 26);
        due("place 2, not its own 0", tableByte(x, 1 + 5), 3);
        due("then 4", x.byteAt(0, 2 * 32), 5);
        x.put(5, 0, 1);
        due("0 is free again, though the older table names it", tableByte(x, 1 + 5), 1);

        Probe cut = threeRows();
        cut.tape(Probe.pattern(55, 9));
        cut.cut(100);
        cut.write(1, 8);
        cut.open();
        cut.put(3, 0, 1);
        due("places of a cut write are free", tableByte(cut, 1 + 3), 6);

        Probe taken = threeRows();
        int[] places = taken.part(0);
        taken.remove(0);
        partIs("taking away writes no place", taken, 0, places);
        due("but makes them free", taken.told(0), 21);

        Probe slow = longRow();
        slow.move(2);
        slow.put(1, 0, 1);
        due("a slow row has none of the file's", tableByte(slow, 1 + 1), 1);
    }

    private static void placesInOrder() {
        int[] old = withGaps().part(0);
        for (int whole = 0; whole <= 3; whole++) {
            Probe x = withGaps();
            int[] tables = x.part(2);
            x.tape(Probe.pattern(60, 9));
            x.cut(whole * 32);
            due("cut behind " + whole, x.write(9, 5), -1);
            int[] want = old.clone();
            int[] links = {3, 5, 0};
            for (int k = 0; k < whole; k++) {
                Probe.setPlace(want, 2 * k, links[k], 5, Probe.pattern(60, 9), 25 * k, k == 2 ? 10 : 25);
            }
            partIs("cut behind " + whole, x, 0, want);
            partIs("cut behind " + whole, x, 2, tables);
        }
    }

    private static void theOtherTable() {
        Probe x = new Probe();
        x.put(0, 0, 3);
        due("table 0 when none counts", x.told(3), 0);
        bytesAre("table 1 stays", x.bytes(2, 40, 40), new int[40]);
        int[] first = x.bytes(2, 0, 40);
        x.remove(0);
        due("then table 1", x.told(3), 1);
        bytesAre("table 0 stays", x.bytes(2, 0, 40), first);
        x.put(0, 0, 3);
        due("then table 0", x.told(3), 0);
        x.poke(2, 10, 1);
        x.open();
        due("table 0 was harmed", x.told(3), 1);
        x.put(1, 0, 3);
        due("so it is the other one", x.told(3), 0);
        x.poke(2, 10, 1);
        x.poke(2, 50, 1);
        due("both were harmed", x.open(), 0);
        x.put(2, 0, 3);
        due("table 0 when none counts any more", x.told(3), 0);
        due("alone", x.open(), 1);
        x.put(3, 0, 3);
        due("then table 1 again", x.told(3), 1);
    }

    private static void theNextNumber() {
        Probe x = new Probe();
        for (int n = 1; n <= 9; n++) {
            x.put(n, 0, 1);
            due("number", x.told(2), n);
        }
        x.remove(9);
        due("taking away", x.told(2), 10);
        x.feed(1, 1);
        x.cut(20);
        x.write(0, 0);
        x.open();
        due("not by a cut write", x.told(2), 10);
        x.put(0, 0, 1);
        due("the same once more", x.told(2), 11);
        x.poke(2, 39, 1);
        x.poke(2, 79, 1);
        x.open();
        x.put(0, 0, 1);
        due("1 when none counts any more", x.told(2), 1);
        Probe y = longRow().forge(2, 0, 250);
        y.open();
        y.remove(0);
        due("1 behind 250", y.told(2), 1);
    }

    private static void theRowIsTheNewOne() {
        Probe x = threeRows();
        x.put(1, 9, 60);
        rowIs("written again", x, 1, Probe.pattern(60, 1));
        due("its month", x.at(1, 2), 9);
        rowIs("row 0 stays", x, 0, Probe.pattern(40, 0));
        rowIs("row 2 stays", x, 2, Probe.pattern(5, 2));
        x.move(9);
        x.put(1, 3, 2);
        due("a slow row written again is slow no more", x.at(1, 1), 0);
        rowIs("a slow row written again", x, 1, Probe.pattern(2, 1));
        due("its slow places are free", x.told(1), 16);

        Probe both = namedInBoth();
        both.put(2, 5, 3);
        due("another row's byte for the file stays as it stood", tableByte(both, 1), 1);
        due("and that for the slow file", tableByte(both, 13), 1);
        both.put(0, 4, 26);
        due("written itself, it is slow no more", both.at(0, 1), 0);
        rowIs("written itself", both, 0, Probe.pattern(26, 0));
        Probe away = namedInBoth();
        away.remove(0);
        due("taken away", away.at(0, 0), 0);
        due("taken away: the file's byte", tableByte(away, 1), 0);
        due("taken away: the slow file's byte", tableByte(away, 13), 0);
    }

    private static void freePlaces() {
        Probe x = new Probe();
        due("all at first", x.told(0), 24);
        x.put(0, 0, 60);
        due("but three", x.told(0), 21);
        x.put(0, 0, 1);
        due("the older table's chain does not count", x.told(0), 23);
        x.put(1, 0, 60);
        x.forge(2, 1, x.byteAt(2, 1 + 1));
        x.open();
        due("two rows go through the same ones", x.told(0), 21);
        x.poke(2, 1, 128);
        x.open();
        due("by the older table again", x.told(0), 23);
        x.poke(2, 41, 128);
        x.open();
        due("no table: all", x.told(0), 24);
        due("no table: all slow ones", x.told(1), 16);

        Probe y = fullFile();
        due("none", y.told(0), 0);
        y.poke(0, 32, 1);
        y.open();
        due("a chain goes not behind a wrong place", y.told(0), 1);
        due("the slow file has its own", y.told(1), 16);
    }

    // Cuts and opening

    private static void cutBehindEachByte() {
        int[][] place5 = {{0, 5 * 32, 32}, {2, 40, 40}};
        int[][] places5To7 = {{0, 5 * 32, 32}, {0, 6 * 32, 32}, {0, 7 * 32, 32}, {2, 40, 40}};
        int[][] table = {{2, 40, 40}};
        cutIs("one place", () -> threeRowsAndTape(25), p -> p.write(1, 8), place5, 1);
        cutIs("three places", () -> threeRowsAndTape(55), p -> p.write(1, 8), places5To7, 3);
        cutIs("taking away", () -> threeRowsAndTape(1), p -> p.remove(1), table, 0);
        int[][] gaps = {{0, 0, 32}, {0, 64, 32}, {0, 128, 32}, {2, 0, 40}};
        cutIs("places apart", () -> {
            Probe x = withGaps();
            x.tape(Probe.pattern(60, 50));
            return x;
        }, p -> p.write(1, 8), gaps, 3);
    }

    private static Probe threeRowsAndTape(int n) {
        Probe x = threeRows();
        x.tape(Probe.pattern(n, 50));
        return x;
    }

    /** Of a write of row 1, cut behind each byte: the stretches {part, from, length} come in, in this order. */
    private static void cutIs(String name, Made made, Call write, int[][] stretches, int answer) {
        Probe whole = made.make();
        due(name + ": whole", write.on(whole), answer);
        int bytes = Arrays.stream(stretches).mapToInt(s -> s[2]).sum();
        for (int cut = 0; cut <= bytes; cut++) {
            String what = name + ", cut behind " + cut;
            Probe x = made.make();
            int[][] want = {x.part(0), x.part(1), x.part(2)};
            x.cut(cut);
            due(what, write.on(x), cut < bytes ? -1 : answer);
            copyFirst(want, whole, stretches, cut);
            for (int part = 0; part < 3; part++) {
                partIs(what, x, part, want[part]);
            }
            due(what + ": shut", x.told(2), cut < bytes ? TURN : whole.told(2));
            openedIsOldOrNew(what, x, made.make(), whole, want[2]);
        }
    }

    private static void copyFirst(int[][] want, Probe whole, int[][] stretches, int cut) {
        int left = cut;
        for (int[] stretch : stretches) {
            int n = Math.min(left, stretch[2]);
            System.arraycopy(whole.part(stretch[0]), stretch[1], want[stretch[0]], stretch[1], n);
            left -= n;
        }
    }

    /** The table is at its end already when the bytes that are missing are the same as before. */
    private static void openedIsOldOrNew(String what, Probe x, Probe old, Probe whole, int[] tables) {
        Probe due = Arrays.equals(tables, whole.part(2)) ? whole : old;
        due(what + ": opened", x.open(), due.twin().open());
        for (int row = 0; row < 4; row++) {
            due(what + ": bytes of row " + row, x.row(row, -1), due.row(row, -1));
            due(what + ": slow row " + row, x.at(row, 1), due.at(row, 1));
        }
        due(what + ": number", x.told(2), due.told(2));
        due(what + ": free", x.told(0), due.told(0));
        due(what + ": slow free", x.told(1), due.told(1));
    }

    private static void noMoreBytesThanTheCut() {
        int[] lengths = {25, 50, 60};
        for (int k = 0; k < 3; k++) {
            int bytes = 32 * (k + 1) + 40;
            for (int cut : new int[] {bytes - 1, bytes, bytes + 1, 200, -1}) {
                Probe x = new Probe();
                x.tape(Probe.pattern(lengths[k], 0));
                x.cut(cut);
                due("cut behind " + cut + " of " + bytes, x.write(0, 0), cut == bytes - 1 ? -1 : k + 1);
            }
        }
        Probe x = threeRows();
        x.cut(40);
        due("taking away has 40", x.remove(0), 0);
        x.cut(39);
        due("and not 39", x.remove(1), -1);
    }

    private static void theCutIsOver() {
        Probe x = new Probe();
        x.feed(1, 1);
        x.cut(0);
        due("cut", x.write(0, 0), -1);
        x.open();
        due("not the next one", x.put(0, 0, 60), 3);
        x.cut(136);
        due("whole", x.put(1, 0, 60), 3);
        due("not the next one behind a whole one", x.put(2, 0, 60), 3);
        x.cut(72);
        due("whole, by less", x.remove(2), 0);
        due("not the next one behind that", x.put(2, 0, 60), 3);
        x.cut(150);
        due("each row moved is a write", x.move(0), 3);
        x.cut(30);
        due("taking away", x.remove(0), -1);
        x.open();
        due("not the next one taken away", x.remove(0), 0);
    }

    private static void openedByItsTables() {
        Probe x = new Probe();
        x.put(0, 0, 3);
        x.put(0, 0, 9);
        x.put(1, 0, 9);
        due("as it was", x.open(), 2);
        x.poke(2, 30, 1);
        due("the older one", x.open(), 1);
        due("its row", x.row(0, -1), 9);
        x.poke(2, 30, 1);
        due("the newer one again", x.open(), 2);
        x.poke(2, 70, 1);
        due("the newer one alone", x.open(), 2);
        x.poke(2, 70, 1);
        x.tape(Probe.pattern(2, 0));
        x.cut(32 + 39);
        x.open();
        due("all but a byte", x.write(2, 0), -1);
        due("the table is not whole", x.open(), 2);
        due("row 2 is not there", x.at(2, 0), 0);
        due("its table's sum is wrong", x.wrong(2, 0), 1);
    }

    private static void openedWithoutATable() {
        Probe x = new Probe();
        due("a new one", x.open(), 0);
        x.feed(1, 1);
        x.cut(71);
        x.write(0, 0);
        due("the first write was cut", x.open(), 0);
        toldIs("the first write was cut", x, 24, 16, 0, -1, 0);
        due("row 0", x.at(0, 0), 0);

        Probe y = threeRows();
        y.move(1);
        y.poke(2, 5, 1);
        y.poke(2, 45, 1);
        due("both harmed", y.open(), 0);
        toldIs("both harmed", y, 24, 16, 0, -1, 0);
        for (int row = 0; row < 12; row++) {
            due("row " + row, y.at(row, 0), 0);
        }
        due("nothing to move", y.move(1), 0);
        due("nothing to take away", y.remove(0), TURN);
        due("no wrong place", y.wrong(0, 0), -1);
        due("no wrong slow place", y.wrong(1, 0), -1);
    }

    // Chains

    private static void placeByPlace() {
        int[] lengths = {1, 25, 26, 50, 51, 60};
        for (int n : lengths) {
            Probe x = new Probe();
            int places = x.put(3, 4, n);
            due("places of " + n, x.at(3, 3), places);
            x.move(4);
            due("slow places of " + n, x.at(3, 3), places);
        }
        Probe x = longRow();
        x.forge(2, 1, 3);
        x.forge(0, 2 * 32, 2);
        x.forge(0, 32, 1);
        x.forge(0, 0, 0);
        x.open();
        int[] bytes = Probe.pattern(60, 0);
        int[] want = new int[60];
        System.arraycopy(bytes, 50, want, 0, 10);
        System.arraycopy(bytes, 25, want, 10, 25);
        System.arraycopy(bytes, 0, want, 35, 25);
        rowIs("from place 2 to 1 to 0", x, 0, want);
        x.forge(2, 1, 2);
        x.open();
        rowIs("from place 1 to 0", x, 0, Arrays.copyOfRange(want, 10, 60));
    }

    private static void noSuchPlace() {
        for (int link : new int[] {25, 26, 128, 255}) {
            linkedIs("place " + (link - 1), 0, link, 1);
            linkedIs("place " + (link - 1) + " behind the second", 32, link, 2);
            Probe x = longRow().forge(2, 1, link);
            x.open();
            brokenIs("first place " + (link - 1), x, 0, 0);
            due("first place " + (link - 1) + ": all are free", x.told(0), 24);
        }
        linkedIs("there is a place 23", 0, 24, 2);
        Probe first = longRow().forge(2, 1, 24);
        first.open();
        brokenIs("there is a first place 23", first, 0, 1);

        for (int link = 16; link <= 17; link++) {
            Probe slow = longRow();
            slow.move(2);
            slow.forge(1, 0, link);
            slow.open();
            brokenIs("slow place " + (link - 1), slow, 0, link == 16 ? 2 : 1);
            slow.forge(2, 40 + 13, link);
            slow.open();
            brokenIs("first slow place " + (link - 1), slow, 0, link == 16 ? 1 : 0);
        }
    }

    /** Of the row in places 0, 1, 2 one place says another next one. */
    private static void linkedIs(String what, int i, int link, int places) {
        Probe x = longRow().forge(0, i, link);
        x.open();
        brokenIs(what, x, 0, places);
        due(what + ": free", x.told(0), 24 - places);
        due(what + ": its sums are right", x.wrong(0, 0), -1);
    }

    private static void wentThroughAlready() {
        linkedIs("the first on itself", 0, 1, 1);
        linkedIs("the second on itself", 32, 2, 2);
        linkedIs("the second on the first", 32, 1, 2);
        linkedIs("the third on itself", 64, 3, 3);
        linkedIs("the third on the first", 64, 1, 3);
        linkedIs("the third on the second", 64, 2, 3);
    }

    private static void behindThree() {
        Probe x = longRow();
        x.put(1, 2, 5);
        x.forge(0, 2 * 32, 4);
        x.open();
        brokenIs("a right place 3 behind it", x, 0, 3);
        due("row 1 has place 3", x.row(1, -1), 5);
        x.remove(1);
        due("then it is free", x.told(0), 21);
        linkedIs("no place behind it", 64, 25, 3);

        // A place whose chain was broken goes on into a row that was written since.
        Probe y = longRow();
        y.poke(0, 10, 1);
        y.open();
        y.put(1, 2, 50);
        y.poke(0, 10, 1);
        y.open();
        int[] want = Arrays.copyOf(Probe.pattern(25, 0), 75);
        System.arraycopy(Probe.pattern(50, 1), 0, want, 25, 50);
        rowIs("three full places", y, 0, want);
        due("shared places count once", y.told(0), 21);
        due("both are moved", y.move(2), 2);
        rowIs("three full slow places", y, 0, want);
    }

    private static void notBehindAWrongSum() {
        for (int k = 0; k < 3; k++) {
            Probe x = longRow();
            x.poke(0, k * 32 + 28, 4);
            x.open();
            brokenIs("place " + k, x, 0, k + 1);
            due("place " + k + ": free", x.told(0), 23 - k);
            due("place " + k + ": wrong", x.wrong(0, 0), k);
            Probe slow = longRow();
            slow.move(2);
            slow.poke(1, k * 32 + 5, 4);
            slow.open();
            brokenIs("slow place " + k, slow, 0, k + 1);
            due("slow place " + k + ": free", slow.told(1), 15 - k);
        }
    }

    private static void notBehindAPlaceThatHoldsNone() {
        for (int k = 0; k < 3; k++) {
            for (int held : new int[] {0, 26, 27, 255}) {
                Probe x = longRow().forge(0, k * 32 + 1, held);
                x.open();
                brokenIs("place " + k + " holds " + held, x, 0, k + 1);
                due("place " + k + " holds " + held + ": free", x.told(0), 23 - k);
                due("its sum is right", x.wrong(0, 0), -1);
            }
            for (int held : new int[] {1, 25}) {
                Probe x = longRow().forge(0, k * 32 + 1, held);
                x.open();
                due("place " + k + " holds " + held, x.row(0, -1), (k == 2 ? 50 : 35) + held);
                due("place " + k + " holds " + held + ": month", x.at(0, 2), 2);
            }
        }
        Probe x = longRow().forge(0, 32 + 1, 7);
        x.open();
        int[] want = Arrays.copyOf(Probe.pattern(60, 0), 42);
        System.arraycopy(Probe.pattern(60, 0), 50, want, 32, 10);
        rowIs("7 in the middle", x, 0, want);
    }

    private static void notBehindAnotherMonth() {
        for (int k = 1; k < 3; k++) {
            for (int month : new int[] {0, 1, 3, 255}) {
                Probe x = longRow().forge(0, k * 32 + 2, month);
                x.open();
                brokenIs("month " + month + " in place " + k, x, 0, k + 1);
                due("month " + month + " in place " + k + ": free", x.told(0), 23 - k);
            }
        }
        Probe x = longRow().forge(0, 2, 3);
        x.open();
        brokenIs("another month in the first", x, 0, 2);
        x.forge(0, 32 + 2, 3);
        x.forge(0, 64 + 2, 3);
        x.open();
        due("in all of them", x.row(0, -1), 60);
        due("that is its month", x.at(0, 2), 3);
        monthThatNoWriteGives(12);
        monthThatNoWriteGives(255);
    }

    /** A place is right by the first one's month, whichever that is; a move can't name this one. */
    private static void monthThatNoWriteGives(int month) {
        Probe x = longRow();
        for (int k = 0; k < 3; k++) {
            x.forge(0, k * 32 + 2, month);
        }
        x.open();
        rowIs("month " + month + " in all of them", x, 0, Probe.pattern(60, 0));
        due("month " + month + " is answered", x.at(0, 2), month);
        for (int other = 0; other < 12; other++) {
            due("month " + month + " is not " + other, x.move(other), 0);
        }
        due("no month " + month + " to move", x.move(month), RANGE);
        due("month " + month + ": not slow", x.at(0, 1), 0);
    }

    private static void brokenChains() {
        Probe x = longRow().forge(0, 0, 0);
        x.open();
        rowIs("the first says it is the last one", x, 0, Probe.pattern(25, 0));
        due("its month", x.at(0, 2), 2);
        due("its places", x.at(0, 3), 1);
        x.poke(0, 9, 1);
        due("broken ones are there", x.open(), 1);
        brokenIs("a last one that is not right", x, 0, 1);
        due("without a month it is not moved", x.move(2), 0);
        due("not slow", x.at(0, 1), 0);
        x.poke(0, 9, 1);
        x.open();
        due("right again", x.row(0, -1), 25);
        due("moved", x.move(2), 1);
        x.poke(1, 31, 1);
        x.open();
        brokenIs("a slow one", x, 0, 1);
        due("a slow one is slow still", x.at(0, 1), 1);
        due("taken away", x.remove(0), 0);
        due("not there", x.at(0, 0), 0);

        Probe zero = new Probe().forge(2, 0, 1, 1);
        due("month 0, but the first place holds none", zero.open(), 1);
        brokenIs("month 0, but the first place holds none", zero, 0, 1);
        due("it is not of month 0", zero.move(0), 0);
    }

    private static void placesOfBrokenChains() {
        Probe x = longRow();
        x.poke(0, 32 + 9, 1);
        x.open();
        due("places 0 and 1 are gone through", x.told(0), 22);
        due("a new row of three", x.put(1, 0, 60), 3);
        due("takes place 2 first", tableByte(x, 1 + 1), 3);
        due("then place 3", x.byteAt(0, 2 * 32), 4);
        x.poke(0, 32 + 9, 1);
        x.open();
        brokenIs("place 2 is of another month now", x, 0, 3);

        Probe y = longRow();
        y.put(1, 3, 30);
        y.move(2);
        y.poke(1, 9, 1);
        y.open();
        due("slow place 0 is gone through", y.told(1), 15);
        due("the next one", y.move(3), 1);
        due("is moved to slow place 1", tableByte(y, 13 + 1), 2);
    }

    // Moving

    private static void rowsThatMove() {
        Probe x = new Probe();
        due("none of an empty file", x.move(0), 0);
        due("without a write", x.told(2), 0);
        x.put(11, 4, 60);
        x.put(0, 4, 26);
        x.put(5, 5, 1);
        x.put(3, 4, 1);
        due("three", x.move(4), 3);
        due("three writes", x.told(2), 7);
        due("row 0 first", tableByte(x, 13), 1);
        due("then row 3", tableByte(x, 13 + 3), 3);
        due("then row 11", tableByte(x, 13 + 11), 4);
        due("row 5 is of another month", x.at(5, 1), 0);
        due("again: all are slow", x.move(4), 0);
        due("again: no write", x.told(2), 7);
        x.put(3, 4, 2);
        due("one of them written again", x.move(4), 1);
        due("months 0", x.move(0), 0);
        due("month 11", x.move(11), 0);
        due("the last one", x.move(5), 1);
        for (int row : new int[] {0, 3, 5, 11}) {
            due("slow row " + row, x.at(row, 1), 1);
        }
        toldIs("all are slow", x, 24, 16 - 7, 10, 1, 0);

        Probe older = new Probe();
        older.put(2, 4, 1);
        older.put(1, 4, 1);
        older.move(4);
        due("the write of row 1 stands in the older table", older.byteAt(2, 13 + 1), 1);
        due("where row 2 is not slow", older.byteAt(2, 13 + 2), 0);
        due("and in the newer one", older.byteAt(2, 40 + 13 + 1), 1);
        due("with row 2 behind it", older.byteAt(2, 40 + 13 + 2), 2);
    }

    private static void lowestFreeSlowPlaces() {
        Probe x = new Probe();
        for (int row = 0; row < 4; row++) {
            x.put(row, 1, 1);
        }
        x.move(1);
        x.remove(0);
        x.remove(2);
        x.put(7, 6, 60);
        due("moved", x.move(6), 1);
        due("slow place 0", tableByte(x, 13 + 7), 1);
        due("then 2", x.byteAt(1, 0), 3);
        due("then 4", x.byteAt(1, 2 * 32), 5);
        due("the last one", x.byteAt(1, 4 * 32), 0);
        rowIs("its bytes", x, 7, Probe.pattern(60, 7));
        rowIs("row 1 stays", x, 1, Probe.pattern(1, 1));
        rowIs("row 3 stays", x, 3, Probe.pattern(1, 3));

        Probe full = fullFile();
        due("the file's chains use none", full.told(1), 16);
        due("five rows fit", full.move(1), MEANING);
        due("five are slow", full.at(4, 1), 1);
        due("the sixth is not", full.at(5, 1), 0);
        due("one is left", full.told(1), 1);

        chainIsWrittenAsItIs();
    }

    /** A middle place that holds 7, which no write gives: only the links are others in the slow file. */
    private static void chainIsWrittenAsItIs() {
        Probe x = longRow().forge(0, 32 + 1, 7);
        x.open();
        int[] file = x.part(0);
        x.put(1, 5, 1);
        x.move(5);
        due("moved", x.move(2), 1);
        int[] want = x.part(1);
        System.arraycopy(file, 0, want, 32, 96);
        for (int place = 1; place <= 3; place++) {
            want[place * 32] = place == 3 ? 0 : place + 2;
            Probe.setSum(want, place * 32, 32);
        }
        partIs("the chain is written as it is, place by place", x, 1, want);
        int[] bytes = Arrays.copyOf(Probe.pattern(60, 0), 42);
        System.arraycopy(Probe.pattern(60, 0), 50, bytes, 32, 10);
        rowIs("its bytes are what they were", x, 0, bytes);
        due("its places too", x.at(0, 3), 3);
        due("slow", x.at(0, 1), 1);
    }

    private static void slowInTheTable() {
        Probe x = new Probe();
        x.put(9, 0, 1);
        x.put(4, 7, 51);
        int[] places = x.part(0);
        int[] older = x.bytes(2, 40, 40);
        x.move(7);
        partIs("the file's places stay", x, 0, places);
        bytesAre("the older table stays", x.bytes(2, 40, 40), older);
        int[] want = new int[40];
        want[0] = 3;
        want[1 + 9] = 1;
        want[13 + 4] = 1;
        Probe.setSum(want, 0, 40);
        bytesAre("the newer one", x.bytes(2, 0, 40), want);
        int[] slow = new int[512];
        Probe.setPlace(slow, 0, 2, 7, Probe.pattern(51, 4), 0, 25);
        Probe.setPlace(slow, 1, 3, 7, Probe.pattern(51, 4), 25, 25);
        Probe.setPlace(slow, 2, 0, 7, Probe.pattern(51, 4), 50, 1);
        partIs("the slow places", x, 1, slow);
        due("slow", x.at(4, 1), 1);
        due("its places in the file are free", x.told(0), 23);
    }

    private static void cutsOfAMove() {
        int[][] slowPlacesFirst = {{1, 0, 32}, {1, 32, 32}, {2, 0, 40}};
        cutIs("over slow places that were used", () -> {
            Probe x = threeRows();
            x.move(1);
            x.remove(0);
            x.put(1, 5, 40);
            return x;
        }, p -> p.move(5), slowPlacesFirst, 1);
        Probe x = threeRows();
        x.cut(103);
        due("the first of three is cut", x.move(1), -1);
        x.open();
        due("none is slow", x.at(0, 1) + x.at(1, 1) + x.at(2, 1), 0);
        due("its slow places are free", x.told(1), 16);
        x.cut(104);
        due("the first of three is whole, the others are not cut", x.move(1), 3);
        due("all of them", x.told(1), 11);
    }

    // Memory

    private static void memoryMadeOnce() {
        checkFinal(ShadowFiles.class);
        for (Class<?> inside : ShadowFiles.class.getDeclaredClasses()) {
            checkFinal(inside);
        }
        // What Java itself makes at first is behind then.
        for (int k = 0; k < 20; k++) {
            callOften(new ShadowFiles());
        }
        com.sun.management.ThreadMXBean threads =
                (com.sun.management.ThreadMXBean) ManagementFactory.getThreadMXBean();
        ShadowFiles x = new ShadowFiles();
        threads.getCurrentThreadAllocatedBytes();
        long before = threads.getCurrentThreadAllocatedBytes();
        callOften(x);
        long made = threads.getCurrentThreadAllocatedBytes() - before;
        // 36 objects, one for each call of one method, would have more than 500 bytes.
        due("bytes of memory made by 504 calls", made <= 500 ? 0 : (int) made, 0);
    }

    private static void callOften(ShadowFiles x) {
        for (int k = 0; k < 36; k++) {
            x.feed(k, 8);
            x.feed(k, 8);
            x.feed(k, 8);
            x.feed(k, 8);
            x.write(k % 5, k % 3);
            x.row(k % 5, 30);
            x.at(k % 5, 2);
            x.move(k % 3);
            x.told(0);
            x.wrong(0, 0);
            x.byteAt(0, k);
            x.remove(k % 5);
            x.cut(-1);
            x.open();
        }
    }

    private static void checkFinal(Class<?> type) {
        for (Field field : type.getDeclaredFields()) {
            boolean once = field.getType().isPrimitive() || Modifier.isFinal(field.getModifiers());
            due(field + " is made once", once ? 1 : 0, 1);
        }
    }
}
