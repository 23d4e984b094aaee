import java.util.Arrays;
import java.util.Random;

/** Promises 3 and 6: every byte of what is packed, compared with the plainest way to do it. */
public final class OracleTest {
    public static void main(String[] args) {
        Check.sentence("TO PACK by FLATE, By DICTIONARY");
        random();
        manyDepths();
        allAtOneObject();
        Check.end();
    }

    private static void random() {
        Random random = new Random(21);
        int[] kinds = {0, 2, 10, 11, 12, 13, 14, 15, 15, 15};
        for (int round = 0; round < 450; round++) {
            byte[] data = Samples.of(random, round % 9);
            int kind = kinds[random.nextInt(kinds.length)];
            int colours = 1 + random.nextInt(4);
            int bits = kind == 2 ? 8 : 1 << random.nextInt(4);
            Run x = Run.with(data);
            int row = x.predictor(kind, colours, bits, random.nextInt(3) == 0 ? 1 : 1 + random.nextInt(64));
            byte[] first = kind == 0 ? data : Oracle.predicted(data, kind, row, Math.max(1, colours * bits / 8));
            compare("round " + round, x, first);
        }
    }

    private static void compare(String what, Run x, byte[] first) {
        for (int level = 0; level <= 3; level++) {
            x.pack(0, level);
            x.outSums(what + " level " + level, Oracle.flate(first, level));
        }
        x.pack(1, 0);
        x.outSums(what + " dictionary", Oracle.dictionary(first));
    }

    /** Symbols that come by the numbers of Fibonacci have codes as long as can be. */
    private static void manyDepths() {
        for (int least : new int[] {0, 97, 240}) {
            Random random = new Random(least);
            byte[] data = new byte[0];
            int one = 1;
            int two = 1;
            for (int symbol = 0; symbol < 13; symbol++) {
                data = Check.join(data, Check.filled(Math.min(one, 400 - data.length), least + symbol));
                int next = one + two;
                one = two;
                two = next;
            }
            compare("one behind the other " + least, Run.with(data), data);
            for (int i = data.length - 1; i > 0; i--) {
                int other = random.nextInt(i + 1);
                byte held = data[i];
                data[i] = data[other];
                data[other] = held;
            }
            compare("mixed " + least, Run.with(data), data);
            byte[] few = Arrays.copyOf(data, 60);
            compare("few " + least, Run.with(few), few);
        }
    }

    /** One object for several packings, longer and shorter ones, so that nothing of the one before stays. */
    private static void allAtOneObject() {
        Random random = new Random(5);
        for (int round = 0; round < 60; round++) {
            Run x = new Run(4000);
            for (int part = 0; part < 4; part++) {
                byte[] data = Samples.of(random, random.nextInt(9), 30);
                refill(x, data);
                compare("again " + round + " " + part, x, data);
            }
        }
    }

    /** Halves are no FLATE, so that unpacking them as such leaves an empty out to become the bytes. */
    private static void refill(Run x, byte[] data) {
        x.pack(3, 0);
        x.chain(-1);
        x.unpack(0);
        x.chain(-1);
        x.addAll(data);
    }
}
