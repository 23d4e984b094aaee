import java.util.Random;

/** Promise 6, and what a predictor does to packing and unpacking. */
public final class PredictorTest {
    public static void main(String[] args) {
        rows();
        refused();
        ofEachKind();
        best();
        steps();
        unpacking();
        kindsTwoToFour();
        bounds();
        bothWays();
        Check.end();
    }

    private static void rows() {
        FlateFilter x = new FlateFilter(0);
        Check.same("none", x.predictor(0, 1, 8, 5), 5);
        Check.same("2", x.predictor(2, 3, 8, 7), 21);
        Check.same("filled upward", x.predictor(10, 1, 1, 9), 2);
        Check.same("one bit", x.predictor(11, 1, 1, 1), 1);
        Check.same("eight bits of one each", x.predictor(12, 1, 1, 8), 1);
        Check.same("3 x 4 x 5", x.predictor(13, 3, 4, 5), 8);
        Check.same("3 x 2 x 3", x.predictor(14, 3, 2, 3), 3);
        Check.same("the greatest row", x.predictor(15, 4, 8, 64), 256);
    }

    private static void refused() {
        FlateFilter x = new FlateFilter(4000);
        Check.same("set", x.predictor(12, 1, 8, 2), 2);
        int[][] wrong = {
            {-1, 1, 8, 1}, {1, 1, 8, 1}, {3, 1, 8, 1}, {9, 1, 8, 1}, {16, 1, 8, 1}, {Integer.MIN_VALUE, 1, 8, 1},
            {10, 0, 8, 1}, {10, 5, 8, 1}, {10, -1, 8, 1}, {10, 1, 0, 1}, {10, 1, 3, 1}, {10, 1, 16, 1},
            {10, 1, -8, 1}, {10, 1, 8, 0}, {10, 1, 8, 65}, {10, 1, 8, -1}, {10, 1, 8, Integer.MAX_VALUE},
            {2, 1, 4, 8}, {2, 1, 1, 8}, {2, 1, 2, 8}, {0, 0, 8, 1}, {0, 1, 5, 1}, {0, 1, 8, 0}, {0, 5, 8, 65},
        };
        for (int[] w : wrong) {
            Check.same("predictor " + java.util.Arrays.toString(w), x.predictor(w[0], w[1], w[2], w[3]), 0);
        }
        for (int value : new int[] {1, 2, 3, 4}) {
            x.add((byte) value);
        }
        x.pack(0, 0);
        Check.same("the one before stays", inner(x), "020102" + "020202");
        x.predictor(0, 1, 8, 1);
        x.pack(0, 0);
        Check.same("none again", inner(x), "01020304");
    }

    /** What level 0 of FLATE stored. */
    private static String inner(FlateFilter x) {
        String all = Check.hexOf(x);
        return all.substring(14, all.length() - 8);
    }

    private static void filters(String what, int kind, int colours, int bits, int columns, byte[] data, String due) {
        FlateFilter x = Check.with(data);
        x.predictor(kind, colours, bits, columns);
        x.pack(0, 0);
        Check.same(what, inner(x), due);
        String all = Check.hexOf(x);
        Check.same(what + ": its sum is of what was packed", all.substring(all.length() - 8),
                String.format("%08x", Oracle.sum(Check.fromHex(due))));
        x.chain(-1);
        Check.same(what + ": back", x.unpack(0), data.length);
        Check.same(what + ": back", Check.hexOf(x), Check.hex(data));
        Check.same(what + ": the sum does not differ", x.differs() ? 1 : 0, 0);
    }

    private static void ofEachKind() {
        byte[] data = Check.bytes(10, 20, 5, 12, 25, 255, 7);
        filters("2", 2, 1, 8, 3, data, "0a0af1" + "0c0de6" + "07");
        filters("2, two colours", 2, 2, 8, 2, data, "0a14fbf8" + "19ffee");
        filters("10", 10, 1, 8, 3, data, "000a1405" + "000c19ff" + "0007");
        filters("11", 11, 1, 8, 3, data, "010a0af1" + "010c0de6" + "0107");
        filters("12", 12, 1, 8, 3, data, "020a1405" + "020205fa" + "02fb");
        // Halves of: 0, 10, 20; then 10, 12 + 20, 25 + 5; then 12.
        filters("13", 13, 1, 8, 3, data, "030a0ffb" + "0307" + "09f0" + "0301");
        // First row as 1; then 10 above; a 12, b 20, c 10: 22, nearest 20; a 25, b 5, c 20: 10, nearest 5.
        filters("14", 14, 1, 8, 3, data, "040a0af1" + "0402" + "05fa" + "04fb");
        // a 8, b 11, c 10: 9, as near to a as to c; a 11, b 8, c 10: 9, as near to b as to c.
        filters("14: a before c", 14, 1, 8, 2, Check.bytes(10, 11, 8, 8), "040a01" + "04fe00");
        filters("14: b before c", 14, 1, 8, 2, Check.bytes(10, 8, 11, 20), "040afe" + "04010c");
        filters("14: c", 14, 1, 8, 2, Check.bytes(10, 15, 5, 11), "040a05" + "04fb01");
        filters("none of none", 15, 1, 8, 3, new byte[0], "");
        filters("a full last row", 11, 1, 8, 2, Check.bytes(1, 2, 3, 4), "010101" + "010301");
    }

    private static void best() {
        filters("15: the least sum", 15, 1, 8, 4, Check.bytes(10, 11, 12, 13, 11, 12, 13, 14),
                "010a010101" + "0201010101");
        filters("15: the first of alike ones", 15, 1, 8, 3, Check.bytes(0, 0, 0, 0, 0, 0), "00000000" + "00000000");
        // As it is 56 and 55; less the one before 56 and 1. Then by 2 it is 1 and 1, by 4 1 and 0.
        filters("15: above 127", 15, 1, 8, 2, Check.bytes(200, 201, 199, 200), "01c801" + "04ff00");
        filters("15: 3 is the least", 15, 1, 8, 2, Check.bytes(255, 127), "03ff00");
        filters("15: 1 and 4 are alike in the first row", 15, 1, 8, 3, Check.bytes(50, 51, 52), "01320101");
    }

    private static void steps() {
        byte[] data = Check.bytes(1, 2, 4, 8, 16, 32, 64);
        filters("w 1 for less than a byte", 11, 3, 2, 4, data, "01010102" + "01080810" + "0140");
        filters("w 1 for 12 bits", 11, 3, 4, 2, data, "01010102" + "01080810" + "0140");
        filters("w 2 for 16 bits", 11, 4, 4, 2, data, "0101020306" + "01102030");
        filters("w 3", 11, 3, 8, 2, data, "0101020407" + "0e1c" + "0140");
        filters("w 4", 11, 4, 8, 1, data, "0101020408" + "01102040");
        filters("w 4 in rows of 8", 14, 4, 8, 2, Check.bytes(1, 2, 3, 4, 5, 6, 7, 8), "04" + "01020304" + "04040404");
    }

    private static void unpacking() {
        unpacks("each row has its own", 10, 2, Check.bytes(0, 1, 2, 1, 1, 2, 2, 1, 1, 3, 2, 2, 4, 1, 1),
                "0102" + "0103" + "0204" + "0305" + "0406");
        unpacks("above 4 as 0", 14, 2, Check.bytes(5, 1, 2, 255, 3, 4), "01020304");
        unpacks("the last row shorter", 12, 3, Check.bytes(2, 1, 2, 3, 2, 1), "01020302");
        unpacks("a row of nothing", 12, 2, Check.bytes(2, 1, 2, 2), "0102");
        unpacks("nothing", 12, 2, new byte[0], "");
        unpacks("2", 2, 2, Check.bytes(1, 2, 3, 4, 5), "0103030705");
    }

    private static void unpacks(String what, int kind, int columns, byte[] raw, String due) {
        for (int by = 0; by <= 1; by++) {
            FlateFilter x = Check.with(raw);
            x.pack(by, 0);
            x.chain(-1);
            x.predictor(kind, 1, 8, columns);
            Check.same(what, x.unpack(by), due.length() / 2);
            Check.same(what, Check.hexOf(x), due);
        }
    }

    private static void kindsTwoToFour() {
        for (int kind = 2; kind <= 4; kind++) {
            FlateFilter x = Check.with(Check.text("abcdef"));
            x.pack(kind, 0);
            String plain = Check.hexOf(x);
            x.predictor(15, 1, 8, 2);
            x.pack(kind, 0);
            Check.same("kind " + kind + " goes without", Check.hexOf(x), plain);
            x.chain(-1);
            x.unpack(kind);
            Check.same("kind " + kind + " comes without", Check.hexOf(x), "616263646566");
        }
        FlateFilter x = Check.with(Check.bytes(7, 7, 7));
        x.predictor(2, 1, 8, 3);
        x.pack(1, 0);
        Check.same("the dictionary goes with it", Check.hexOf(x),
                Check.hex(Bits.dictionary().high(256, 9).high(7, 9).high(0, 9).high(0, 9).high(257, 9).done()));
    }

    private static void bounds() {
        // Six bytes go to the predictor, four come: the bound counts both.
        byte[] stream = Check.fromHex("7801 01 0600f9ff 000102 000304 00000000");
        FlateFilter x = Check.with(6, stream);
        x.predictor(10, 1, 8, 2);
        Check.same("all fit", x.unpack(0), 4);
        FlateFilter y = Check.with(5, stream);
        y.predictor(10, 1, 8, 2);
        Check.same("what goes to it is too long", y.unpack(0), -1 - 12);
        Check.same("what came so far", Check.hexOf(y), "010203");
        FlateFilter z = Check.with(13, Check.bytes(1, 2, 3));
        z.predictor(10, 1, 8, 1);
        Check.refused("the bound counts what is packed", UnsupportedOperationException.class, () -> z.pack(0, 0));
        // 800 bytes alike become 1600 for rows of one byte and are packed to few again.
        FlateFilter many = Check.with(60, Check.filled(800, 5));
        many.predictor(10, 1, 8, 1);
        Check.same("a long way to a short out", many.pack(0, 3) <= 60 ? 1 : 0, 1);
    }

    private static void bothWays() {
        Random random = new Random(9);
        int[] kinds = {2, 10, 11, 12, 13, 14, 15};
        int[] bits = {8, 8, 4, 2, 1};
        for (int round = 0; round < 400; round++) {
            byte[] data = Samples.of(random, round % 9);
            int kind = kinds[round % 7];
            FlateFilter x = Check.with(data);
            x.predictor(kind, 1 + random.nextInt(4), kind == 2 ? 8 : bits[random.nextInt(5)], 1 + random.nextInt(64));
            int by = round % 2;
            if (x.pack(by, round % 4) <= 800) {
                x.chain(-1);
                Check.same("round " + round, x.unpack(by), data.length);
                Check.same("round " + round, Check.hexOf(x), Check.hex(data));
            }
        }
    }
}
