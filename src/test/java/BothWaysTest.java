import java.util.Arrays;
import java.util.Random;
import java.util.zip.DataFormatException;
import java.util.zip.Deflater;
import java.util.zip.Inflater;

/** Promises 3, 4 and 6: what was packed comes back, also by the Java library, and noise harms nothing. */
public final class BothWaysTest {
    public static void main(String[] args) throws DataFormatException {
        back();
        backBehindPredictors();
        libraryUnpacks();
        libraryPacks();
        noise();
        harmed();
        Check.end();
    }

    private static void back() {
        Check.sentence("Packed streams both ways");
        Random random = new Random(3);
        for (int round = 0; round < 300; round++) {
            byte[] data = Samples.of(random, round % 9);
            for (int kind = 0; kind <= 4; kind++) {
                Run x = Run.with(data);
                if (x.pack(kind, round % 4) <= 800) {
                    x.chain(-1);
                    Check.same("kind " + kind + " round " + round, x.unpack(kind), data.length);
                    x.outSums("kind " + kind + " round " + round, data);
                    Check.no("kind " + kind + " round " + round + ": differs", x.differs());
                }
            }
        }
    }

    private static void backBehindPredictors() {
        Check.sentence("predictors by rows");
        Random random = new Random(9);
        int[] kinds = {2, 10, 11, 12, 13, 14, 15};
        int[] bits = {8, 8, 4, 2, 1};
        for (int round = 0; round < 400; round++) {
            byte[] data = Samples.of(random, round % 9);
            int kind = kinds[round % 7];
            Run x = Run.with(data);
            x.predictor(kind, 1 + random.nextInt(4), kind == 2 ? 8 : bits[random.nextInt(5)], 1 + random.nextInt(64));
            int by = round % 2;
            if (x.pack(by, round % 4) <= 800) {
                x.chain(-1);
                Check.same("round " + round, x.unpack(by), data.length);
                x.outSums("round " + round, data);
            }
        }
    }

    /** The library reads what level 0 .. 3 packed, up to where it can be asked within the calls. */
    private static void libraryUnpacks() throws DataFormatException {
        Check.sentence("TO PACK by FLATE");
        Random random = new Random(7);
        for (int round = 0; round < 300; round++) {
            byte[] data = Samples.of(random, round % 9, 140);
            for (int level = 0; level < 4; level++) {
                Run x = Run.with(data);
                x.pack(0, level);
                byte[] packed = x.outBytes();
                Inflater inflater = new Inflater();
                inflater.setInput(packed);
                byte[] room = new byte[data.length + 1];
                int got = inflater.inflate(room);
                Check.yes("round " + round + " level " + level + " ended", inflater.finished());
                Check.same("round " + round + " level " + level, Check.hex(Arrays.copyOf(room, got)), Check.hex(data));
                Check.same("round " + round + " level " + level + ", all was taken", inflater.getBytesRead(), packed.length);
                inflater.end();
            }
        }
    }

    /** What the library packs; its lowest level begins with 120 and 1. */
    private static void libraryPacks() {
        Check.sentence("FLATE: bytes 120 and 1, BLOCKS, the SUM");
        Random random = new Random(11);
        for (int round = 0; round < 300; round++) {
            byte[] data = Samples.of(random, round % 9, 3000);
            Deflater deflater = new Deflater(round % 2);
            deflater.setStrategy(round % 3 == 0 ? Deflater.HUFFMAN_ONLY : Deflater.DEFAULT_STRATEGY);
            deflater.setInput(data);
            deflater.finish();
            byte[] packed = new byte[5000];
            int size = deflater.deflate(packed);
            deflater.end();
            if (size > 480 || packed[1] != 1) {
                continue;
            }
            Run x = new Run(4000).addAll(Arrays.copyOf(packed, size));
            Check.same("round " + round, x.unpack(0), data.length);
            x.outSums("round " + round, data);
            Check.no("round " + round + ": differs", x.differs());
        }
    }

    private static void noise() {
        Check.sentence("Streams that are cut or wrong give what came so far.");
        Random random = new Random(4);
        for (int round = 0; round < 3000; round++) {
            byte[] noise = new byte[random.nextInt(60)];
            random.nextBytes(noise);
            byte[] stream = round % 2 == 0 ? noise : Check.join(Check.bytes(120, 1), noise);
            int most = random.nextInt(300);
            Run x = Run.with(most, stream);
            x.predictor(random.nextInt(17), 1 + random.nextInt(4), 8, 1 + random.nextInt(9));
            for (int kind = 0; kind <= 4; kind++) {
                inRange("round " + round + " kind " + kind, x, kind, stream.length, most);
            }
        }
    }

    /** Good streams of which one byte is another. */
    private static void harmed() {
        Check.sentence("Streams that are cut or wrong give what came so far.");
        Random random = new Random(6);
        for (int round = 0; round < 1500; round++) {
            byte[] data = Samples.of(random, round % 9, 90);
            int kind = round % 5;
            Run packer = Run.with(data);
            packer.pack(kind, random.nextInt(4));
            byte[] stream = packer.outBytes();
            stream[random.nextInt(stream.length)] ^= (byte) (1 << random.nextInt(8));
            Run x = Run.with(stream);
            inRange("round " + round + " kind " + kind, x, kind, stream.length, 4000);
        }
    }

    private static void inRange(String what, Run x, int kind, int places, int most) {
        int answer = x.unpack(kind);
        int size = x.outSize();
        Check.yes(what + ": a fault's place", answer >= -1 - places);
        Check.yes(what + ": not beyond the bound", size <= most);
        if (answer >= 0) {
            Check.same(what + ": as many as told", size, answer);
        }
    }
}
