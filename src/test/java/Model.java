import java.util.Arrays;

/** All calls of the document by the plainest ways, Oracle and Undo, to compare whole runs of calls with. */
final class Model {
    private static final int[] BITS = {1, 2, 4, 8};

    private final int bound;
    private byte[] bytes = new byte[0];
    private byte[] out = new byte[0];
    private int kind;
    private int row = 1;
    private int w = 1;
    private boolean differs;

    Model(long most) {
        bound = most < 0 ? 0 : most > 4000 ? 4000 : (int) most;
    }

    void add(int b) {
        if (bytes.length == 800) {
            throw new UnsupportedOperationException("model");
        }
        bytes = Check.join(bytes, Check.bytes(b));
    }

    private byte[] packed(byte[] from, int by, int level) {
        byte[] first = by < 2 && kind != 0 ? Oracle.predicted(from, kind, row, w) : from;
        byte[] all = by == 0 ? Oracle.flate(first, level) : by == 1 ? Oracle.dictionary(first)
                : by == 2 ? Oracle.runs(first) : by == 3 ? Oracle.halves(first) : Oracle.fives(first);
        if (all.length > bound) {
            throw new UnsupportedOperationException("model");
        }
        return all;
    }

    private static void refuse(boolean wrong) {
        if (wrong) {
            throw new IllegalArgumentException("model");
        }
    }

    int pack(int by, int level) {
        refuse(by < 0 || by > 4 || by == 0 && (level < 0 || level > 3));
        out = packed(bytes, by, level);
        return out.length;
    }

    int unpack(int by) {
        refuse(by < 0 || by > 4);
        Undo undo = new Undo(bytes, by, bound, kind, row, w);
        out = undo.out();
        differs = undo.differs();
        return undo.answer();
    }

    byte out(int i) {
        if (i < 0 || i >= out.length) {
            throw new ArrayIndexOutOfBoundsException("model");
        }
        return out[i];
    }

    int predictor(int by, int colours, int bits, int columns) {
        boolean known = by == 0 || by == 2 && bits == 8 || by >= 10 && by <= 15;
        if (!known || colours < 1 || colours > 4 || columns < 1 || columns > 64 || Arrays.binarySearch(BITS, bits) < 0) {
            return 0;
        }
        kind = by;
        row = (int) Math.ceil(colours * bits * columns / 8.0);
        w = Math.max(1, colours * bits / 8);
        return row;
    }

    int table(int lengths) {
        double used = 0;
        for (char half : String.format("%08x", lengths).toCharArray()) {
            int length = Character.digit(half, 16);
            used += length == 0 ? 0 : Math.pow(2, -length);
        }
        return used > 1 ? -1 : used < 1 ? 0 : 1;
    }

    long sum(int by) {
        refuse(by < 0 || by > 1);
        return by == 0 ? Run.adler(out) : Run.crc(out);
    }

    boolean differs() {
        return differs;
    }

    int chain(int by) {
        refuse(by < -1 || by > 4);
        byte[] moved = Arrays.copyOf(out, Math.min(out.length, 800));
        if (by >= 0) {
            out = packed(moved, by, 3);
        }
        bytes = moved;
        return out.length;
    }

    int cell(int back) {
        if (back < 1 || back > out.length) {
            throw new ArrayIndexOutOfBoundsException("model");
        }
        return out[out.length - back] & 255;
    }

    byte[] all() {
        return out;
    }
}
