import java.util.Arrays;

/** What a packed block of way 2 tells before its symbols, read again for the tests. */
final class Head {
    final int a;
    final int b;
    final int c;
    /** Bits of tellers 0 .. 18. */
    final int[] tellers = new int[19];
    /** The tellers that come, one behind the other: a length, or 16, 17, 18 with + and what follows it. */
    final String told;
    final int[] symbols;
    final int[] distances;
    private final byte[] stream;
    private int place = 19;

    /** A stream of which the first block has way 2. */
    Head(byte[] packed) {
        stream = packed;
        a = number(5);
        b = number(5);
        c = number(4);
        for (int i = 0; i < c + 4; i++) {
            tellers[Oracle.ORDER[i]] = number(3);
        }
        String[] codes = Oracle.codes(tellers);
        int[] lengths = new int[a + 257 + b + 1];
        StringBuilder text = new StringBuilder();
        int known = 0;
        while (known < lengths.length) {
            int teller = teller(codes);
            int times = 1;
            int length = teller;
            text.append(text.length() > 0 ? " " : "").append(teller);
            if (teller >= 16) {
                int more = number(teller == 16 ? 2 : teller == 17 ? 3 : 7);
                times = more + (teller == 18 ? 11 : 3);
                length = teller == 16 ? lengths[known - 1] : 0;
                text.append("+").append(more);
            }
            Arrays.fill(lengths, known, known + times, length);
            known += times;
        }
        told = text.toString();
        symbols = Arrays.copyOf(lengths, a + 257);
        distances = Arrays.copyOfRange(lengths, a + 257, lengths.length);
    }

    private int number(int width) {
        int number = 0;
        for (int i = 0; i < width; i++) {
            number |= ((stream[place / 8] >> (place % 8)) & 1) << i;
            place++;
        }
        return number;
    }

    private int teller(String[] codes) {
        StringBuilder taken = new StringBuilder();
        while (taken.length() < 8) {
            taken.append(number(1));
            for (int teller = 0; teller < 19; teller++) {
                if (taken.toString().equals(codes[teller])) {
                    return teller;
                }
            }
        }
        throw new IllegalStateException("no such teller");
    }
}
