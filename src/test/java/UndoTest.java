import java.util.Arrays;
import java.util.Random;

/** Promises 4, 6 and 9: streams of all kinds, many of them harmed, compared with the plainest way to unpack. */
public final class UndoTest {
    private static final int[] PREDICTORS = {0, 0, 0, 2, 10, 12, 14, 15};

    public static void main(String[] args) {
        Check.sentence("Streams that are cut or wrong give what came so far; FAULTS of unpacking have a place");
        int rounds = args.length > 0 ? Integer.parseInt(args[0]) : 12000;
        Random random = new Random(args.length > 1 ? Integer.parseInt(args[1]) : 17);
        for (int round = 0; round < rounds; round++) {
            compare("round " + round, random, round % 5);
        }
        Check.end();
    }

    private static void compare(String what, Random random, int kind) {
        byte[] data = Samples.of(random, random.nextInt(9), random.nextInt(3) == 0 ? 8 : 70);
        byte[] stream = harmed(random, packed(random, data, kind), kind);
        int most = random.nextInt(3) == 0 ? random.nextInt(data.length + 2) : 4000;
        int predictor = PREDICTORS[random.nextInt(PREDICTORS.length)];
        int colours = 1 + random.nextInt(4);
        int bits = predictor == 2 ? 8 : 1 << random.nextInt(4);
        Run x = Run.with(most, stream);
        int row = x.predictor(predictor, colours, bits, 1 + random.nextInt(12));
        Undo due = new Undo(stream, kind, most, predictor, row, Math.max(1, colours * bits / 8));
        String told = what + " kind " + kind + " bound " + most + " stream " + Check.hex(stream);
        Check.same(told, x.unpack(kind), due.answer());
        Check.same(told + ": differs", x.differs() ? 1 : 0, due.differs() ? 1 : 0);
        x.outSums(told, due.out());
    }

    private static byte[] packed(Random random, byte[] data, int kind) {
        if (kind == 0) {
            return random.nextInt(3) == 0 ? blocks(random, data) : Oracle.flate(data, random.nextInt(3));
        }
        if (kind == 1) {
            return Oracle.dictionary(data);
        }
        Run x = Run.with(data);
        x.pack(kind, 0);
        return x.outBytes();
    }

    /** Two blocks or three, of which one may have codes that are told at random. */
    private static byte[] blocks(Random random, byte[] data) {
        Bits stream = Bits.flate();
        int half = data.length / 2;
        stream.low(0, 1).low(0, 2).align().low(half, 16).low(65535 - half, 16);
        for (int i = 0; i < half; i++) {
            stream.low(data[i], 8);
        }
        stream.low(0, 1).low(1, 2);
        for (int i = half; i < data.length; i++) {
            stream.fixed(data[i] & 255);
        }
        stream.fixed(256).low(1, 1);
        Told told = new Told(stream, random.nextInt(32), random.nextInt(32), 0, 3, 1, 2, 2, 3, 3, 3, 16, 3, 17, 3, 18, 2);
        for (int i = random.nextInt(40); i > 0; i--) {
            int teller = new int[] {0, 1, 2, 3, 16, 17, 18}[random.nextInt(7)];
            if (teller < 16) {
                told.tell(teller);
            } else {
                told.tellMore(teller, random.nextInt(teller == 16 ? 4 : teller == 17 ? 8 : 128));
            }
        }
        return stream.done(random.nextInt());
    }

    private static byte[] harmed(Random random, byte[] good, int kind) {
        byte[] stream = Arrays.copyOf(good, good.length);
        for (int i = random.nextInt(3); i > 0 && stream.length > 0; i--) {
            int place = kind == 0 && stream.length > 2 && random.nextInt(5) > 0 ? 2 + random.nextInt(stream.length - 2)
                    : random.nextInt(stream.length);
            if (random.nextBoolean()) {
                stream[place] ^= (byte) (1 << random.nextInt(8));
            } else {
                stream[place] = (byte) (kind > 2 ? " ~>zA9u!v".charAt(random.nextInt(9)) : random.nextInt(256));
            }
        }
        if (random.nextInt(4) == 0) {
            stream = Arrays.copyOf(stream, random.nextInt(stream.length + 1));
        }
        return Arrays.copyOf(stream, Math.min(stream.length, 400));
    }
}
