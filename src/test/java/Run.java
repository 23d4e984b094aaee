import java.util.zip.Adler32;
import java.util.zip.CRC32;
import java.util.zip.Deflater;

/**
 * A run of calls on a new object. The document says nothing of an object after its 512th call, so
 * that a test which asks more of one is wrong itself, and ends at once.
 */
final class Run {
    private static final int MOST_CALLS = 512;
    private static final int MOST_OUT = 4000;
    private static final int MORE_THAN_CAN_BE = 4096;
    // So many adds leave a test some calls for what it asks.
    private static final int MOST_ADDS = 400;

    private final FlateFilter object;
    private int calls;

    Run(long most) {
        object = new FlateFilter(most);
    }

    /** An object with these bytes; its out is empty only if there are few enough to be added. */
    static Run with(long most, byte[] bytes) {
        Run run = new Run(most);
        if (bytes.length <= MOST_ADDS) {
            return run.addAll(bytes);
        }
        run.addAll(packedByLibrary(bytes));
        run.unpack(0);
        run.chain(-1);
        return run;
    }

    static Run with(byte[] bytes) {
        return with(MOST_OUT, bytes);
    }

    /** Whether an object can be given these bytes and be asked something of them in 512 calls. */
    static boolean canHold(byte[] bytes) {
        return bytes.length <= MOST_ADDS || packedByLibrary(bytes).length <= MOST_ADDS;
    }

    /** The lowest level of the Java library begins with 120 and 1, as FLATE does. */
    private static byte[] packedByLibrary(byte[] bytes) {
        Deflater deflater = new Deflater(1);
        deflater.setInput(bytes);
        deflater.finish();
        byte[] room = new byte[2 * bytes.length + 100];
        int size = deflater.deflate(room);
        deflater.end();
        return java.util.Arrays.copyOf(room, size);
    }

    private FlateFilter called() {
        calls++;
        if (calls > MOST_CALLS) {
            throw new IllegalStateException("this test makes more than " + MOST_CALLS + " calls");
        }
        return object;
    }

    int callsLeft() {
        return MOST_CALLS - calls;
    }

    void add(int b) {
        called().add((byte) b);
    }

    Run addAll(byte[] bytes) {
        for (byte b : bytes) {
            add(b);
        }
        return this;
    }

    int pack(int kind, int level) {
        return called().pack(kind, level);
    }

    int unpack(int kind) {
        return called().unpack(kind);
    }

    byte out(int i) {
        return called().out(i);
    }

    int predictor(int kind, int colours, int bits, int columns) {
        return called().predictor(kind, colours, bits, columns);
    }

    int table(int lengths) {
        return called().table(lengths);
    }

    long sum(int kind) {
        return called().sum(kind);
    }

    boolean differs() {
        return called().differs();
    }

    int chain(int kind) {
        return called().chain(kind);
    }

    int cell(int back) {
        return called().cell(back);
    }

    /** How many bytes the out has, as no call tells it alone: found by halving. */
    int outSize() {
        int size = 0;
        int beyond = MORE_THAN_CAN_BE;
        while (beyond - size > 1) {
            int middle = (size + beyond) / 2;
            if (hasOut(middle - 1)) {
                size = middle;
            } else {
                beyond = middle;
            }
        }
        return size;
    }

    private boolean hasOut(int i) {
        try {
            out(i);
            return true;
        } catch (ArrayIndexOutOfBoundsException e) {
            return false;
        }
    }

    byte[] outBytes() {
        byte[] all = new byte[outSize()];
        for (int i = 0; i < all.length; i++) {
            all[i] = out(i);
        }
        return all;
    }

    String outHex() {
        return Check.hex(outBytes());
    }

    /** Compares the out, byte by byte if calls are left for that, else by its two sums. */
    void outIs(String what, byte[] due) {
        int size = outSize();
        Check.same(what + ", how many in the out", size, due.length);
        if (size == due.length && size + 2 > callsLeft()) {
            Check.same(what + ", sum of the out", sum(0), adler(due));
            Check.same(what + ", remainder of the out", sum(1), crc(due));
            return;
        }
        byte[] all = new byte[size];
        for (int i = 0; i < size; i++) {
            all[i] = out(i);
        }
        Check.same(what + ", the out", Check.hex(all), Check.hex(due));
    }

    /** Compares the out by its length and its two sums alone, which takes few calls. */
    void outSums(String what, byte[] due) {
        Check.same(what + ", how many in the out", outSize(), due.length);
        Check.same(what + ", sum of the out", sum(0), adler(due));
        Check.same(what + ", remainder of the out", sum(1), crc(due));
    }

    void outIs(String what, String hex) {
        outIs(what, Check.fromHex(hex));
    }

    static long adler(byte[] bytes) {
        Adler32 adler = new Adler32();
        adler.update(bytes);
        return adler.getValue();
    }

    static long crc(byte[] bytes) {
        CRC32 crc = new CRC32();
        crc.update(bytes);
        return crc.getValue();
    }
}
