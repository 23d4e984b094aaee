import java.util.Arrays;

/** One last block by the fixed codes, written for a test together with what it unpacks to. */
final class Block {
    private final Bits bits = Bits.flate().low(1, 1).low(1, 2);
    private byte[] due = new byte[0];

    Block alone(int value) {
        bits.fixed(value);
        due = Check.join(due, Check.bytes(value));
        return this;
    }

    Block match(int length, int distance) {
        int k = Oracle.lengthSymbol(length);
        bits.fixed(257 + k).low(length - Oracle.lengthOf(k), k < 8 || k == 28 ? 0 : k / 4 - 1);
        int d = Oracle.distanceSymbol(distance);
        bits.high(d, 5).low(distance - Oracle.distanceOf(d), d < 4 ? 0 : d / 2 - 1);
        return came(length, distance);
    }

    /** What a match brings, where the test itself has written it. */
    Block came(int length, int distance) {
        int size = due.length;
        due = Arrays.copyOf(due, size + length);
        for (int i = size; i < size + length && distance <= size; i++) {
            due[i] = due[i - distance];
        }
        return this;
    }

    /** So many bytes of which neighbours tell where they stand, by few codes. */
    Block grow(int size) {
        int state = 1;
        while (due.length < Math.min(size, 60)) {
            state = state * 1103515245 + 12345;
            alone((state >>> 16) & 127);
        }
        while (due.length < size) {
            state = state * 1103515245 + 12345;
            int length = Math.min(size - due.length, 3 + ((state >>> 16) & 255));
            if (length < 3) {
                alone(1);
            } else {
                match(length, 1 + (state >>> 8) % (due.length - 1));
            }
        }
        return this;
    }

    Bits bits() {
        return bits;
    }

    int size() {
        return due.length;
    }

    byte[] due() {
        return due;
    }

    /** The stream with the block's end and the right sum. */
    byte[] done() {
        return bits.fixed(256).done(Run.adler(due));
    }
}
