/** Writes streams bit by bit, for the tests. */
final class Bits {
    private final StringBuilder bits = new StringBuilder();
    private final boolean lowFirst;

    private Bits(boolean lowFirst) {
        this.lowFirst = lowFirst;
    }

    /** A stream of FLATE, its two first bytes written. */
    static Bits flate() {
        return new Bits(true).low(120, 8).low(1, 8);
    }

    static Bits dictionary() {
        return new Bits(false);
    }

    Bits low(int number, int width) {
        for (int i = 0; i < width; i++) {
            bits.append((number >> i) & 1);
        }
        return this;
    }

    Bits high(int number, int width) {
        for (int i = width - 1; i >= 0; i--) {
            bits.append((number >> i) & 1);
        }
        return this;
    }

    /** Bits as they stand, blanks passed. */
    Bits raw(String text) {
        bits.append(text.replace(" ", ""));
        return this;
    }

    Bits align() {
        while (bits.length() % 8 != 0) {
            bits.append('0');
        }
        return this;
    }

    /** A symbol by the fixed codes. */
    Bits fixed(int symbol) {
        if (symbol < 144) {
            return high(48 + symbol, 8);
        }
        if (symbol < 256) {
            return high(400 + symbol - 144, 9);
        }
        return symbol < 280 ? high(symbol - 256, 7) : high(192 + symbol - 280, 8);
    }

    int size() {
        return bits.length();
    }

    byte[] done() {
        align();
        byte[] all = new byte[bits.length() / 8];
        for (int i = 0; i < bits.length(); i++) {
            if (bits.charAt(i) == '1') {
                all[i / 8] |= (byte) (1 << (lowFirst ? i % 8 : 7 - i % 8));
            }
        }
        return all;
    }

    /** The stream with a sum of four bytes behind it. */
    byte[] done(long sum) {
        align();
        for (int shift = 24; shift >= 0; shift -= 8) {
            low((int) (sum >> shift) & 255, 8);
        }
        return done();
    }
}
