import java.util.Arrays;
import java.util.Random;

/** Bytes of several sorts for the tests that go both ways. */
final class Samples {
    private Samples() {
    }

    /** Up to 800 bytes, as far as an object can be given them within its calls. */
    static byte[] of(Random random, int sort) {
        byte[] data = of(random, sort, random.nextInt(4) == 0 ? 11 : 800);
        return Run.canHold(data) ? data : Arrays.copyOf(data, 400);
    }

    static byte[] of(Random random, int sort, int most) {
        byte[] data = new byte[random.nextInt(most + 1)];
        for (int i = 0; i < data.length; i++) {
            data[i] = (byte) next(random, sort, data, i);
        }
        return data;
    }

    private static int next(Random random, int sort, byte[] data, int i) {
        switch (sort) {
            case 0:
                return random.nextInt(256);
            case 1:
                return 'a' + random.nextInt(2);
            case 2:
                return i == 0 || random.nextInt(60) == 0 ? random.nextInt(256) : data[i - 1];
            case 3:
                return i < 9 || random.nextInt(12) == 0 ? random.nextInt(256) : data[i - 9];
            case 4:
                return i * 3 + random.nextInt(2);
            case 5:
                return (int) Math.abs(random.nextGaussian() * 20);
            case 6:
                return random.nextInt(5) == 0 ? random.nextInt(256) : 0;
            case 7:
                return i < 40 || random.nextInt(9) == 0 ? 'a' + random.nextInt(20) : data[i - 1 - random.nextInt(3)];
            default:
                return i;
        }
    }
}
