/** The head of a block whose codes are told, written for a test: tellers, and then what they tell. */
final class Told {
    private final Bits bits;
    private final String[] codes;

    /** Tellers by pairs: which one, and how many bits it has. */
    Told(Bits stream, int a, int b, int... pairs) {
        int[] lengths = new int[19];
        int c = 4;
        for (int i = 0; i < pairs.length; i += 2) {
            lengths[pairs[i]] = pairs[i + 1];
        }
        for (int i = 0; i < 19; i++) {
            c = lengths[Oracle.ORDER[i]] > 0 ? Math.max(c, i + 1) : c;
        }
        bits = stream.low(2, 2).low(a, 5).low(b, 5).low(c - 4, 4);
        for (int i = 0; i < c; i++) {
            bits.low(lengths[Oracle.ORDER[i]], 3);
        }
        codes = Oracle.codes(lengths);
    }

    /** The only block of a stream. */
    static Told only(int a, int b, int... pairs) {
        return new Told(Bits.flate().low(1, 1), a, b, pairs);
    }

    /** Tellers 0, 1, 2, 18, by two bits each. */
    static Told small(int a, int b) {
        return only(a, b, 0, 2, 1, 2, 2, 2, 18, 2);
    }

    Told tell(int... lengths) {
        for (int length : lengths) {
            bits.raw(codes[length]);
        }
        return this;
    }

    /** 16 and two bits, 17 and three, 18 and seven. */
    Told tellMore(int teller, int more) {
        bits.raw(codes[teller]).low(more, teller == 16 ? 2 : teller == 17 ? 3 : 7);
        return this;
    }

    /** So many zeros, by 18 as far as it goes. */
    Told zeros(int count) {
        int left = count;
        while (left >= 11) {
            int run = Math.min(left, 138);
            tellMore(18, run - 11);
            left -= run;
        }
        for (; left > 0; left--) {
            tell(0);
        }
        return this;
    }

    Bits bits() {
        return bits;
    }
}
