import java.io.IOException;
import java.nio.file.Files;
import java.nio.file.Path;
import java.util.ArrayList;
import java.util.Arrays;
import java.util.LinkedHashMap;
import java.util.List;
import java.util.Map;

/**
 * Runs a test for each sentence of the document, under the sentence's own words: words that the
 * document does not have are a fault, and so are words of it that no test bears.
 */
abstract class Bench {
    static final int INDEX = Probe.INDEX;
    static final int TURN = Probe.TURN;
    static final int RANGE = Probe.RANGE;
    static final int MEANING = Probe.MEANING;

    private static final Path DOCUMENT = Path.of("../shared/DOC.md");

    /** What stands under a heading, and which of its characters a test bears. */
    private static final class Section {
        final String text;
        final boolean[] borne;

        Section(String text) {
            this.text = text;
            borne = new boolean[text.length()];
        }
    }

    private static final Map<String, Section> sections = new LinkedHashMap<>();
    private static String heading = "";
    private static String sentence = "";
    private static int tests = 0;
    private static int checks = 0;
    private static int failures = 0;

    interface Test {
        void run();
    }

    interface Call {
        int on(Probe x);
    }

    interface Made {
        Probe make();
    }

    // The document

    static void section(String name) {
        heading = name;
        sentence = "";
        String text = textUnder(name);
        if (text.isEmpty()) {
            fail("the document has no such section");
        }
        sections.put(name, new Section(text));
    }

    /** The signature ahead of a promise is left out: FaceTest has it. */
    private static String textUnder(String name) {
        List<String> found = new ArrayList<>();
        boolean inside = false;
        for (String line : documentLines()) {
            if (line.startsWith("## ")) {
                inside = line.substring(3).equals(name);
            } else if (inside) {
                found.add(line.strip());
            }
        }
        return String.join(" ", found).strip().replaceFirst("^`[^`]*`: ", "");
    }

    private static List<String> documentLines() {
        try {
            return Files.readAllLines(DOCUMENT);
        } catch (IOException e) {
            return List.of();
        }
    }

    static void test(String words, Test body) {
        sentence = words;
        tests++;
        bear(words);
        try {
            body.run();
        } catch (RuntimeException | AssertionError e) {
            fail("the test itself ended by " + e);
        }
    }

    private static void bear(String words) {
        Section section = sections.get(heading);
        int at = section.text.indexOf(words);
        if (at < 0) {
            fail("the document does not have these words");
        }
        while (at >= 0) {
            Arrays.fill(section.borne, at, at + words.length(), true);
            at = section.text.indexOf(words, at + 1);
        }
    }

    static void end() {
        sentence = "";
        sections.forEach(Bench::checkBorne);
        System.out.println(tests + " sentences, " + checks + " checks, " + failures + " failed");
        if (failures != 0) {
            System.exit(1);
        }
    }

    private static void checkBorne(String name, Section section) {
        heading = name;
        StringBuilder left = new StringBuilder();
        for (int i = 0; i < section.borne.length; i++) {
            if (!section.borne[i]) {
                left.append(section.text.charAt(i));
            }
        }
        if (!left.toString().isBlank()) {
            fail("no test bears the words: " + left.toString().strip());
        }
    }

    // Checks

    private static void fail(String what) {
        failures++;
        if (failures <= 200) {
            System.out.println(heading + " | " + sentence + " | " + what);
        }
    }

    static void due(String what, int got, int want) {
        checks++;
        if (got != want) {
            fail(what + ": answered " + Probe.written(got) + ", due is " + Probe.written(want));
        }
    }

    static void toldIs(String what, Probe x, int... want) {
        for (int k = 0; k < want.length; k++) {
            due(what + ": told " + k, x.told(k), want[k]);
        }
    }

    /** On a twin, since a row has up to 60 bytes. */
    static void rowIs(String what, Probe x, int row, int[] want) {
        Probe twin = x.twin();
        due(what + ": how many bytes", twin.row(row, -1), want.length);
        for (int i = 0; i < want.length; i++) {
            due(what + ": byte " + i, twin.row(row, i), want[i]);
        }
        due(what + ": no byte behind", twin.row(row, want.length), INDEX);
    }

    static void brokenIs(String what, Probe x, int row, int places) {
        due(what + ": it is there", x.at(row, 0), 1);
        due(what + ": no bytes", x.row(row, -1), 0);
        due(what + ": no byte 0", x.row(row, 0), INDEX);
        due(what + ": no month", x.at(row, 2), -1);
        due(what + ": places", x.at(row, 3), places);
    }

    static void partIs(String what, Probe x, int part, int[] want) {
        bytesAre(what + ": part " + part, x.part(part), want);
    }

    static void bytesAre(String what, int[] got, int[] want) {
        due(what + ": the first byte that differs", Arrays.mismatch(got, want), -1);
    }

    /** Numbers that are not lowest .. highest. */
    static int[] outside(int lowest, int highest) {
        return new int[] {lowest - 1, highest + 1, lowest - 256, highest + 256, highest + 65536,
            Integer.MIN_VALUE, Integer.MAX_VALUE};
    }

    /** The call is refused so, and all that can be seen of the object stays. */
    static void refused(String what, Probe x, Call call, int code) {
        int[] before = all(x);
        due(what, call.on(x), code);
        bytesAre(what + ": it changes nothing", all(x), before);
    }

    /** All bytes, what is told, the tape and the cut that is ahead. */
    private static int[] all(Probe x) {
        List<Integer> seen = new ArrayList<>();
        for (int what = 0; what < 3; what++) {
            add(seen, x.part(what));
        }
        Probe twin = x.twin();
        for (int what = 0; what <= 4; what++) {
            seen.add(twin.told(what));
        }
        addWritten(seen, x.twin());
        Probe whole = x.twin();
        whole.cut(-1);
        addWritten(seen, whole);
        return seen.stream().mapToInt(Integer::intValue).toArray();
    }

    /** The tape is written where no table counts, so that there is room: what comes in shows tape and cut. */
    private static void addWritten(List<Integer> seen, Probe x) {
        for (int table = 0; table < 2; table++) {
            int number = x.byteAt(2, table * 40);
            if (number != 0) {
                x.poke(2, table * 40, number);
            }
        }
        x.open();
        if (x.told(4) == 0) {
            x.feed(0xEE, 1);
        }
        seen.add(x.write(0, 0));
        add(seen, x.bytes(0, 0, 96));
        add(seen, x.part(2));
    }

    private static void add(List<Integer> seen, int[] bytes) {
        for (int one : bytes) {
            seen.add(one);
        }
    }
}
