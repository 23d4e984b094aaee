import java.util.Random;

/** Promises 3 and 6: every byte of what is packed, compared with the plainest way to do it. */
public final class OracleTest {
    public static void main(String[] args) {
        random();
        manyDepths();
        allAtOneObject();
        Check.end();
    }

    private static void random() {
        Random random = new Random(21);
        int[] kinds = {0, 2, 10, 11, 12, 13, 14, 15, 15, 15};
        for (int round = 0; round < 450; round++) {
            byte[] data = Samples.of(random, round % 9);
            int kind = kinds[random.nextInt(kinds.length)];
            int colours = 1 + random.nextInt(4);
            int bits = kind == 2 ? 8 : 1 << random.nextInt(4);
            FlateFilter x = Check.with(data);
            int row = x.predictor(kind, colours, bits, random.nextInt(3) == 0 ? 1 : 1 + random.nextInt(64));
            byte[] first = kind == 0 ? data : Oracle.predicted(data, kind, row, Math.max(1, colours * bits / 8));
            compare("round " + round, x, first);
        }
    }

    private static void compare(String what, FlateFilter x, byte[] first) {
        for (int level = 0; level <= 3; level++) {
            x.pack(0, level);
            Check.same(what + " level " + level, Check.hexOf(x), Check.hex(Oracle.flate(first, level)));
        }
        x.pack(1, 0);
        Check.same(what + " dictionary", Check.hexOf(x), Check.hex(Oracle.dictionary(first)));
    }

    /** Symbols that come by the numbers of Fibonacci have codes as long as can be. */
    private static void manyDepths() {
        for (int least : new int[] {0, 97, 240}) {
            Random random = new Random(least);
            byte[] data = new byte[0];
            int one = 1;
            int two = 1;
            for (int symbol = 0; symbol < 13; symbol++) {
                data = Check.join(data, Check.filled(Math.min(one, 800 - data.length), least + symbol));
                int next = one + two;
                one = two;
                two = next;
            }
            compare("one behind the other " + least, Check.with(data), data);
            for (int i = data.length - 1; i > 0; i--) {
                int other = random.nextInt(i + 1);
                byte held = data[i];
                data[i] = data[other];
                data[other] = held;
            }
            compare("mixed " + least, Check.with(data), data);
            byte[] few = java.util.Arrays.copyOf(data, 60);
            compare("few " + least, Check.with(few), few);
        }
    }

    /** One object for many packings, longer and shorter ones, so that nothing of the one before stays. */
    private static void allAtOneObject() {
        Random random = new Random(5);
        FlateFilter x = new FlateFilter(4000);
        for (int round = 0; round < 100; round++) {
            byte[] data = Samples.of(random, round % 9);
            refill(x, data);
            compare("again " + round, x, data);
        }
    }

    /** Halves are no FLATE, so that unpacking them as such leaves an empty out to become the bytes. */
    private static void refill(FlateFilter x, byte[] data) {
        x.pack(3, 0);
        x.chain(-1);
        x.unpack(0);
        x.chain(-1);
        for (byte b : data) {
            x.add(b);
        }
    }
}
