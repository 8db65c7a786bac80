import java.util.ArrayList;
import java.util.Arrays;
import java.util.List;
import java.util.Random;
import java.util.TreeSet;

/**
 * Random runs of calls on fresh objects, side by side with a plain model of the document that is
 * written another way: lists and sets made anew for each call. Whole files are compared after a run.
 */
public final class ModelTest {
    private static final int RUNS = 3000;
    private static final int INDEX = Probe.INDEX;
    private static final int TURN = Probe.TURN;
    private static final int RANGE = Probe.RANGE;
    private static final int MEANING = Probe.MEANING;

    private static int failures = 0;

    public static void main(String[] args) {
        for (int run = 0; run < RUNS && failures < 10; run++) {
            new Run(run).go();
        }
        System.out.println(RUNS + " runs against the model, " + failures + " differ");
        if (failures != 0) {
            System.exit(1);
        }
    }

    /** A chain as it is gone through. */
    private static final class Way {
        final List<Integer> places = new ArrayList<>();
        final List<Integer> bytes = new ArrayList<>();
        boolean ended = false;
        int month = -1;
    }

    private static final class Model {
        final int[][] parts = {new int[768], new int[512], new int[80]};
        final List<Integer> tape = new ArrayList<>();
        boolean isOpen = true;
        int cut = -1;

        int feed(long bytes, int n) {
            if (n < 1 || n > 8) return RANGE;
            if (tape.size() + n > 60) return MEANING;
            for (int k = n; k > 0; k--) tape.add((int) ((bytes >> (8 * (k - 1))) & 255));
            return tape.size();
        }

        int write(int row, int month) {
            if (row < 0 || row > 11) return INDEX;
            if (!isOpen || tape.isEmpty()) return TURN;
            if (month < 0 || month > 11) return RANGE;
            List<int[]> held = new ArrayList<>();
            for (int from = 0; from < tape.size(); from += 25) {
                int n = Math.min(25, tape.size() - from);
                int[] place = new int[32];
                place[1] = n;
                place[2] = month;
                for (int i = 0; i < n; i++) place[3 + i] = tape.get(from + i);
                held.add(place);
            }
            List<Integer> free = free(0);
            if (free.size() < held.size()) return MEANING;
            tape.clear();
            return written(0, row, held, free, true) ? held.size() : -1;
        }

        int remove(int row) {
            if (row < 0 || row > 11) return INDEX;
            if (!isOpen || !there(row)) return TURN;
            return written(0, row, new ArrayList<>(), new ArrayList<>(), false) ? 0 : -1;
        }

        int move(int month) {
            if (!isOpen) return TURN;
            if (month < 0 || month > 11) return RANGE;
            int moved = 0;
            for (int row = 0; row < 12; row++) {
                if (!there(row) || slow(row)) continue;
                Way way = way(row);
                if (!way.ended || way.month != month) continue;
                List<int[]> held = new ArrayList<>();
                for (int place : way.places) {
                    held.add(Arrays.copyOfRange(parts[0], place * 32, place * 32 + 32));
                }
                List<Integer> free = free(1);
                if (free.size() < held.size()) return MEANING;
                if (!written(1, row, held, free, true)) return -1;
                moved++;
            }
            return moved;
        }

        /** The bytes of a write are listed with their addresses first, and then come in one by one. */
        boolean written(int part, int row, List<int[]> held, List<Integer> free, boolean stays) {
            List<int[]> stream = new ArrayList<>();
            for (int k = 0; k < held.size(); k++) {
                int[] place = held.get(k);
                place[0] = k + 1 < held.size() ? free.get(k + 1) + 1 : 0;
                setSum(place);
                for (int i = 0; i < 32; i++) stream.add(new int[] {part, free.get(k) * 32 + i, place[i]});
            }
            int counts = counts();
            int[] table = new int[40];
            if (counts >= 0) System.arraycopy(parts[2], counts * 40, table, 0, 25);
            table[0] = table[0] % 250 + 1;
            table[1 + row] = 0;
            table[13 + row] = 0;
            if (stays) table[(part == 0 ? 1 : 13) + row] = free.get(0) + 1;
            setSum(table);
            int other = counts == 0 ? 1 : 0;
            for (int i = 0; i < 40; i++) stream.add(new int[] {2, other * 40 + i, table[i]});
            int come = cut < 0 ? stream.size() : Math.min(cut, stream.size());
            cut = -1;
            for (int[] one : stream.subList(0, come)) parts[one[0]][one[1]] = one[2];
            isOpen = come == stream.size();
            return isOpen;
        }

        int cut(int bytes) {
            if (bytes < -1 || bytes > 200) return RANGE;
            cut = bytes;
            return 0;
        }

        int open() {
            isOpen = true;
            int n = 0;
            for (int row = 0; row < 12; row++) if (there(row)) n++;
            return n;
        }

        int row(int row, int i) {
            if (row < 0 || row > 11 || i < -1) return INDEX;
            if (!isOpen || !there(row)) return TURN;
            Way way = way(row);
            int n = way.ended ? way.bytes.size() : 0;
            if (i == -1) return n;
            return i < n ? way.bytes.get(i) : INDEX;
        }

        int at(int row, int what) {
            if (row < 0 || row > 11 || what < 0 || what > 3) return INDEX;
            if (!isOpen) return TURN;
            if (what == 0) return there(row) ? 1 : 0;
            if (!there(row)) return TURN;
            if (what == 1) return slow(row) ? 1 : 0;
            Way way = way(row);
            if (what == 3) return way.places.size();
            return way.ended ? way.month : -1;
        }

        int told(int what) {
            if (what < 0 || what > 4) return INDEX;
            if (what == 4) return tape.size();
            if (!isOpen) return TURN;
            if (what <= 1) return free(what).size();
            if (what == 3) return counts();
            return counts() < 0 ? 0 : parts[2][counts() * 40];
        }

        int wrong(int what, int k) {
            if (what < 0 || what > 2 || k < 0) return INDEX;
            List<Integer> found = new ArrayList<>();
            if (what == 2) {
                for (int table = 0; table < 2; table++) {
                    int[] bytes = Arrays.copyOfRange(parts[2], table * 40, table * 40 + 40);
                    if (Arrays.stream(bytes).anyMatch(b -> b != 0) && !sumRight(bytes)) found.add(table);
                }
            } else {
                for (int place : gone(what)) {
                    if (!sumRight(Arrays.copyOfRange(parts[what], place * 32, place * 32 + 32))) found.add(place);
                }
            }
            return k < found.size() ? found.get(k) : -1;
        }

        int byteAt(int what, int i) {
            if (what < 0 || what > 2 || i < 0 || i >= parts[what].length) return INDEX;
            return parts[what][i];
        }

        int poke(int what, int i, int mask) {
            if (what < 0 || what > 2 || i < 0 || i >= parts[what].length) return INDEX;
            if (mask < 1 || mask > 255) return RANGE;
            parts[what][i] ^= mask;
            isOpen = false;
            return 0;
        }

        int counts() {
            boolean[] good = new boolean[2];
            int[] number = new int[2];
            for (int t = 0; t < 2; t++) {
                int[] bytes = Arrays.copyOfRange(parts[2], t * 40, t * 40 + 40);
                number[t] = bytes[0];
                good[t] = sumRight(bytes) && number[t] > 0 && number[t] < 251;
            }
            if (!good[0] && !good[1]) return -1;
            if (!good[1]) return 0;
            if (!good[0]) return 1;
            return number[0] % 250 + 1 == number[1] ? 1 : 0;
        }

        int tableByte(int i) {
            return counts() < 0 ? 0 : parts[2][counts() * 40 + i];
        }

        boolean there(int row) {
            return tableByte(1 + row) + tableByte(13 + row) > 0;
        }

        boolean slow(int row) {
            return tableByte(13 + row) > 0;
        }

        Way way(int row) {
            return slow(row) ? way(1, tableByte(13 + row) - 1) : way(0, tableByte(1 + row) - 1);
        }

        Way way(int part, int first) {
            Way way = new Way();
            int next = first;
            while (next < parts[part].length / 32 && !way.places.contains(next) && way.places.size() < 3) {
                int[] place = Arrays.copyOfRange(parts[part], next * 32, next * 32 + 32);
                way.places.add(next);
                if (way.places.size() == 1) way.month = place[2];
                if (!sumRight(place) || place[1] < 1 || place[1] > 25 || place[2] != way.month) break;
                for (int i = 0; i < place[1]; i++) way.bytes.add(place[3 + i]);
                if (place[0] == 0) {
                    way.ended = true;
                    break;
                }
                next = place[0] - 1;
            }
            return way;
        }

        TreeSet<Integer> gone(int part) {
            TreeSet<Integer> gone = new TreeSet<>();
            for (int row = 0; row < 12; row++) {
                if (there(row) && slow(row) == (part == 1)) gone.addAll(way(row).places);
            }
            return gone;
        }

        List<Integer> free(int part) {
            List<Integer> free = new ArrayList<>();
            TreeSet<Integer> gone = gone(part);
            for (int place = 0; place < parts[part].length / 32; place++) {
                if (!gone.contains(place)) free.add(place);
            }
            return free;
        }

        static int sum(int[] bytes) {
            long s = 0;
            for (int i = 0; i < bytes.length - 4; i++) {
                long x = s ^ bytes[i];
                long turned = ((x << 23) | (x >> 9)) & 0xFFFFFFFFL;
                s = (turned * 0x9E3779B1L) & 0xFFFFFFFFL;
            }
            return (int) s;
        }

        static boolean sumRight(int[] bytes) {
            int[] other = bytes.clone();
            setSum(other);
            return Arrays.equals(bytes, other);
        }

        static void setSum(int[] bytes) {
            int s = sum(bytes);
            int n = bytes.length;
            for (int i = 1; i <= 4; i++) {
                bytes[n - i] = s & 255;
                s >>>= 8;
            }
        }
    }

    private static final class Run {
        final int seed;
        final Random random;
        final Probe real = new Probe();
        final Model model = new Model();
        final List<String> told = new ArrayList<>();
        final List<int[]> poked = new ArrayList<>();
        final int months;
        final boolean forges;
        final int harm;

        Run(int seed) {
            this.seed = seed;
            random = new Random(seed);
            months = 1 + random.nextInt(4);
            forges = random.nextInt(3) == 0;
            harm = random.nextInt(4) == 0 ? 0 : 2 + random.nextInt(60);
        }

        /** Some calls short of the most, so that a step of several calls has room. */
        void go() {
            while (real.calls() < Probe.MOST_CALLS - 50 && failures < 10) {
                if (harm != 0 && random.nextInt(harm) == 0) {
                    doHarm();
                } else {
                    doOne(random.nextInt(22));
                }
            }
            for (int what = 0; what < 3 && failures < 10; what++) {
                int differs = Arrays.mismatch(real.part(what), model.parts[what]);
                same("the first byte of part " + what + " that differs", differs, -1);
            }
        }

        int pick(int n) {
            return random.nextInt(40) == 0 ? random.nextInt(n + 4) - 2 : random.nextInt(n);
        }

        void doOne(int kind) {
            switch (kind) {
                case 0: case 1: case 2: case 3: case 4: case 5: feed(); break;
                case 6: case 7: case 8: case 9: write(pick(12), random.nextInt(50) == 0 ? pick(12) : pick(months)); break;
                case 10: remove(pick(12)); break;
                case 11: move(random.nextInt(30) == 0 ? pick(12) : pick(months)); break;
                case 12: open(); break;
                case 13: case 14: case 15: case 16: row(pick(12), pick(63) - 1); break;
                case 17: at(pick(12), pick(4)); break;
                case 18: case 19: tell(pick(5)); break;
                case 20: wrong(pick(3), pick(4)); break;
                default: look();
            }
        }

        /** A cut ahead, a poke, a poke taken back, or a byte forged with its sum; often opened at once. */
        void doHarm() {
            int kind = random.nextInt(4);
            if (kind == 0) {
                cut(random.nextInt(30) == 0 ? random.nextInt(500) - 250 : random.nextInt(140) - 1);
                return;
            }
            if (kind == 1 && !poked.isEmpty()) {
                int[] one = poked.remove(random.nextInt(poked.size()));
                poke(one[0], one[1], one[2]);
            } else if (kind == 2 && forges) {
                forge();
            } else {
                int what = random.nextInt(3);
                int size = what == 2 ? 80 : 192;
                int i = random.nextInt(size);
                int mask = 1 + random.nextInt(255);
                poked.add(new int[] {what, i, mask});
                poke(what, i, mask);
            }
            if (random.nextInt(20) != 0) {
                open();
            }
        }

        void forge() {
            int what = random.nextInt(3);
            int size = what == 2 ? 40 : 32;
            int block = random.nextInt(what == 2 ? 2 : 8);
            int[] bytes = Arrays.copyOfRange(model.parts[what], block * size, block * size + size);
            int i = random.nextInt(what == 2 ? 36 : 4);
            bytes[i] = random.nextInt(6) == 0 ? random.nextInt(256) : random.nextInt(what == 2 && i != 0 ? 27 : 9);
            Model.setSum(bytes);
            for (int k = 0; k < size; k++) {
                int mask = bytes[k] ^ model.parts[what][block * size + k];
                if (mask != 0) {
                    poke(what, block * size + k, mask);
                }
            }
        }

        void look() {
            int what = random.nextInt(20) == 0 ? random.nextInt(5) - 1 : random.nextInt(3);
            int i = random.nextInt(790) - 5;
            same("byteAt(" + what + ", " + i + ")", real.byteAt(what, i), model.byteAt(what, i));
        }

        void feed() {
            long bytes = random.nextLong();
            int n = random.nextInt(4) == 0 ? pick(9) : 8;
            same("feed(" + bytes + ", " + n + ")", real.feed(bytes, n), model.feed(bytes, n));
        }

        void write(int row, int month) {
            same("write(" + row + ", " + month + ")", real.write(row, month), model.write(row, month));
        }

        void remove(int row) {
            same("remove(" + row + ")", real.remove(row), model.remove(row));
        }

        void move(int month) {
            same("move(" + month + ")", real.move(month), model.move(month));
        }

        void cut(int bytes) {
            same("cut(" + bytes + ")", real.cut(bytes), model.cut(bytes));
        }

        void open() {
            same("open()", real.open(), model.open());
        }

        void row(int row, int i) {
            same("row(" + row + ", " + i + ")", real.row(row, i), model.row(row, i));
        }

        void at(int row, int what) {
            same("at(" + row + ", " + what + ")", real.at(row, what), model.at(row, what));
        }

        void tell(int what) {
            same("told(" + what + ")", real.told(what), model.told(what));
        }

        void wrong(int what, int k) {
            same("wrong(" + what + ", " + k + ")", real.wrong(what, k), model.wrong(what, k));
        }

        void poke(int what, int i, int mask) {
            same("poke(" + what + ", " + i + ", " + mask + ")", real.poke(what, i, mask), model.poke(what, i, mask));
        }

        void same(String call, int got, int want) {
            told.add(call + " = " + Probe.written(got));
            if (got != want && failures < 10) {
                failures++;
                System.out.println("run " + seed + ": " + call + " answered " + Probe.written(got)
                        + ", by the model " + Probe.written(want));
                System.out.println("  behind " + told.subList(Math.max(0, told.size() - 12), told.size() - 1));
            }
        }
    }
}
