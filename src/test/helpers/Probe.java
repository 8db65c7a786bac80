import java.util.ArrayList;
import java.util.Arrays;
import java.util.List;

/**
 * A ShadowFiles whose calls are counted, since an object is used for at most 512 of them. A call that
 * is refused answers a number for its exception. The calls are remembered, so that a twin of the
 * object can be looked at byte by byte without a call on the object itself.
 */
final class Probe {
    static final int INDEX = -1001;
    static final int TURN = -1002;
    static final int RANGE = -1003;
    static final int MEANING = -1004;
    /** An exception that the document does not name: the machine's own, or none of its four. */
    static final int OTHER = -1005;

    static final int MOST_CALLS = 512;
    private static final int[] SIZES = {768, 512, 80};

    private interface Call {
        int on(ShadowFiles x);
    }

    private final ShadowFiles real = new ShadowFiles();
    private final List<Call> remembered = new ArrayList<>();
    private int calls = 0;

    // The face

    int feed(long bytes, int n) {
        return change(x -> x.feed(bytes, n));
    }

    int write(int row, int month) {
        return change(x -> x.write(row, month));
    }

    int remove(int row) {
        return change(x -> x.remove(row));
    }

    int move(int month) {
        return change(x -> x.move(month));
    }

    int cut(int bytes) {
        return change(x -> {
            x.cut(bytes);
            return 0;
        });
    }

    int open() {
        return change(ShadowFiles::open);
    }

    int row(int row, int i) {
        return ask(x -> x.row(row, i));
    }

    int at(int row, int what) {
        return ask(x -> x.at(row, what));
    }

    int told(int what) {
        return ask(x -> x.told(what));
    }

    int wrong(int what, int k) {
        return ask(x -> x.wrong(what, k));
    }

    int byteAt(int what, int i) {
        return ask(x -> x.byteAt(what, i));
    }

    int poke(int what, int i, int mask) {
        return change(x -> {
            x.poke(what, i, mask);
            return 0;
        });
    }

    int calls() {
        return calls;
    }

    private int change(Call call) {
        remembered.add(call);
        return count(call);
    }

    /** A question that is answered changes nothing; one that is refused is for the tests to see. */
    private int ask(Call call) {
        int answer = count(call);
        if (answer < -1) {
            remembered.add(call);
        }
        return answer;
    }

    private int count(Call call) {
        if (calls == MOST_CALLS) {
            throw new AssertionError("the test has more than 512 calls on one object");
        }
        calls++;
        try {
            return call.on(real);
        } catch (RuntimeException e) {
            return code(e);
        }
    }

    /** By the exact class: the machine's ArrayIndexOutOfBoundsException is no answer of the document. */
    private static int code(RuntimeException e) {
        Class<?> kind = e.getClass();
        if (kind == IndexOutOfBoundsException.class) {
            return INDEX;
        }
        if (kind == IllegalStateException.class) {
            return TURN;
        }
        if (kind == IllegalArgumentException.class) {
            return RANGE;
        }
        return kind == UnsupportedOperationException.class ? MEANING : OTHER;
    }

    static String written(int answer) {
        switch (answer) {
            case INDEX:
                return "IndexOutOfBoundsException";
            case TURN:
                return "IllegalStateException";
            case RANGE:
                return "IllegalArgumentException";
            case MEANING:
                return "UnsupportedOperationException";
            case OTHER:
                return "an exception that the document does not name";
            default:
                return Integer.toString(answer);
        }
    }

    // Twins

    /** A new object behind the same calls. */
    Probe twin() {
        Probe twin = new Probe();
        for (Call call : remembered) {
            twin.change(call);
        }
        return twin;
    }

    static int size(int what) {
        return SIZES[what];
    }

    int[] part(int what) {
        return bytes(what, 0, size(what));
    }

    /** Read from as many twins as it takes. */
    int[] bytes(int what, int from, int n) {
        int[] bytes = new int[n];
        Probe twin = twin();
        for (int i = 0; i < n; i++) {
            if (twin.calls == MOST_CALLS) {
                twin = twin();
            }
            bytes[i] = twin.byteAt(what, from + i);
        }
        return bytes;
    }

    // Calls that tests make often

    static int[] pattern(int n, int seed) {
        int[] bytes = new int[n];
        for (int i = 0; i < n; i++) {
            bytes[i] = (seed * 41 + i * 37 + 200) & 0xFF;
        }
        return bytes;
    }

    /** Eight at a time; what stands above the n that are fed is no part of them. */
    void tape(int[] bytes) {
        for (int from = 0; from < bytes.length; from += 8) {
            int n = Math.min(8, bytes.length - from);
            long packed = 0x0101010101010101L;
            for (int i = 0; i < n; i++) {
                packed = (packed << 8) | bytes[from + i];
            }
            feed(packed, n);
        }
    }

    /** A row whose bytes are pattern(n, row). */
    int put(int row, int month, int n) {
        tape(pattern(n, row));
        return write(row, month);
    }

    /** Shut by a poke of the file's last byte, which is of no chain unless the file is full. */
    Probe shut() {
        poke(0, 767, 1);
        return this;
    }

    /** Sets bytes of one place or table from i on, and makes its sum right; the file is shut then. */
    Probe forge(int what, int i, int... values) {
        int size = what == 2 ? 40 : 32;
        int from = i / size * size;
        int[] old = bytes(what, from, size);
        int[] forged = old.clone();
        System.arraycopy(values, 0, forged, i - from, values.length);
        setSum(forged, 0, size);
        for (int k = 0; k < size; k++) {
            if (forged[k] != old[k]) {
                poke(what, from + k, forged[k] ^ old[k]);
            }
        }
        return this;
    }

    static void setSum(int[] bytes, int from, int size) {
        int s = 0;
        for (int i = from; i < from + size - 4; i++) {
            s = Integer.rotateLeft(s ^ bytes[i], 23) * 0x9E3779B1;
        }
        for (int i = 0; i < 4; i++) {
            bytes[from + size - 1 - i] = (s >>> (8 * i)) & 0xFF;
        }
    }

    /** A place as the document lays it out, with the n bytes from a certain one on. */
    static void setPlace(int[] file, int place, int link, int month, int[] bytes, int from, int n) {
        int at = place * 32;
        Arrays.fill(file, at, at + 32, 0);
        file[at] = link;
        file[at + 1] = n;
        file[at + 2] = month;
        System.arraycopy(bytes, from, file, at + 3, n);
        setSum(file, at, 32);
    }
}
