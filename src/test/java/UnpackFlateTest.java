import java.util.Random;
import java.util.zip.Deflater;

/** Promises 4 and 9, by FLATE. */
public final class UnpackFlateTest {
    public static void main(String[] args) {
        frame();
        stored();
        symbols();
        matches();
        tellers();
        toldCodes();
        loneCodes();
        bound();
        sums();
        anotherPacks();
        cutEverywhere();
        Check.end();
    }

    private static void flate(String what, Bits stream, int answer, String out) {
        Check.unpacks(what, 4000, 0, stream.done(), answer, out);
    }

    private static void frame() {
        Check.unpacks("none", 4000, 0, new byte[0], -1, "");
        Check.unpacks("first byte wrong", 4000, 0, Check.bytes(121, 1, 3, 0), -1, "");
        Check.unpacks("first byte 0", 4000, 0, Check.bytes(0, 1, 3, 0), -1, "");
        Check.unpacks("second byte 0", 4000, 0, Check.bytes(120, 0, 3, 0), -2, "");
        Check.unpacks("first byte wrong and alone", 4000, 0, Check.bytes(1), -1, "");
        Check.unpacks("first byte alone", 4000, 0, Check.bytes(120), -2, "");
        Check.unpacks("second byte wrong", 4000, 0, Check.bytes(120, 156, 3, 0), -2, "");
        Check.unpacks("no block", 4000, 0, Check.bytes(120, 1), -3, "");
        flate("way 3", Bits.flate().low(1, 1).low(3, 2), -3, "");
        flate("way 3 in the next byte", Bits.flate().low(0, 1).low(1, 2).fixed('a').fixed(256)
                .low(0, 1).low(1, 2).fixed(256).low(0, 1).low(3, 2), -6, "61");
        Check.unpacks("bytes behind the end are passed", 4000, 0,
                Check.join(Check.fromHex("78014b040000620062"), Check.bytes(1, 2, 3)), 1, "61");
        Check.unpacks("the sum is cut", 4000, 0, Check.fromHex("78014b0400006200"), -9, "61");
        Check.unpacks("no sum", 4000, 0, Check.fromHex("78014b0400"), -6, "61");
    }

    private static void stored() {
        Check.unpacks("stored", 4000, 0, Check.fromHex("7801010100feff6100620062"), 1, "61");
        Check.unpacks("stored none", 4000, 0, Check.fromHex("7801010000ffff00000001"), 0, "");
        Check.unpacks("turned length wrong, low", 4000, 0, Check.fromHex("7801010100fdff6100620062"), -7, "");
        Check.unpacks("turned length wrong, high", 4000, 0, Check.fromHex("7801010100fefe6100620062"), -7, "");
        Check.unpacks("turned length cut", 4000, 0, Check.fromHex("7801010100fd"), -7, "");
        Check.unpacks("the greatest length, cut", 4000, 0, Check.fromHex("780101ffff000061"), -9, "61");
        Check.unpacks("stored bytes cut", 4000, 0, Check.fromHex("7801010300fcff6162"), -10, "6162");
        Check.unpacks("the rest of the byte is passed", 4000, 0,
                Check.fromHex("7801 f9 0100feff 61 00620062"), 1, "61");
        flate("two blocks", Bits.flate().low(0, 1).low(1, 2).fixed('a').fixed(256).low(1, 1).low(0, 2).align()
                .low(2, 16).low(65533, 16).low('b', 8).low('c', 8).low(0x02, 8).low(0x4d, 8).low(0x01, 8)
                .low(0x27, 8), 3, "616263");
    }

    private static void symbols() {
        flate("bytes of eight and nine bits", Bits.flate().low(1, 1).low(1, 2).fixed(0).fixed(143).fixed(144)
                .fixed(255).fixed(256).align().low(0, 32), 4, "008f90ff");
        flate("symbol 286", Bits.flate().low(1, 1).low(1, 2).fixed('a').fixed(286).fixed(256), -5, "61");
        flate("symbol 287", Bits.flate().low(1, 1).low(1, 2).fixed('a').fixed(287).fixed(256), -5, "61");
        flate("distance 30", Bits.flate().low(1, 1).low(1, 2).fixed('a').fixed(257).high(30, 5).fixed(256),
                -5, "61");
        flate("distance 31", Bits.flate().low(1, 1).low(1, 2).fixed('a').fixed(257).high(31, 5).fixed(256),
                -5, "61");
        flate("cut within a code", Bits.flate().low(1, 1).low(1, 2).fixed('a').raw("00111"), -5, "61");
    }

    private static void matches() {
        int[] lengths = {3, 4, 5, 6, 7, 8, 9, 10, 11, 13, 15, 17, 19, 23, 27, 31, 35, 43, 51, 59, 67, 83, 99, 115,
            131, 163, 195, 227, 258};
        for (int k = 0; k < 29; k++) {
            int width = k < 8 || k == 28 ? 0 : k / 4 - 1;
            for (int more = 0; more < (1 << width); more += Math.max(1, (1 << width) - 1)) {
                Bits stream = Bits.flate().low(1, 1).low(1, 2).fixed('a').fixed(257 + k).low(more, width)
                        .high(0, 5).fixed(256).align().low(0, 32);
                flate("length symbol " + (257 + k) + " and " + more, stream, lengths[k] + more + 1,
                        "61".repeat(lengths[k] + more + 1));
            }
        }
        int[] distances = {1, 2, 3, 4, 5, 7, 9, 13, 17, 25, 33, 49, 65, 97, 129, 193, 257, 385, 513};
        for (int k = 0; k < distances.length; k++) {
            int width = k < 4 ? 0 : k / 2 - 1;
            int distance = distances[k];
            Bits stream = Bits.flate().low(0, 1).low(0, 2).align().low(distance, 16).low(65535 - distance, 16);
            StringBuilder due = new StringBuilder();
            for (int i = 0; i < distance; i++) {
                stream.low(i * 7, 8);
            }
            for (int i = 0; i < distance + 3; i++) {
                due.append(String.format("%02x", (i % distance * 7) & 255));
            }
            stream.low(1, 1).low(1, 2).fixed(257).high(k, 5).low(0, width).fixed(256).align().low(0, 32);
            flate("distance " + distance, stream, distance + 3, due.toString());
        }
        flate("one further back than there is", Bits.flate().low(1, 1).low(1, 2).fixed('a').fixed('b').fixed(257)
                .high(2, 5).fixed(256).align().low(0, 32), -6, "6162");
        flate("the greatest distance", Bits.flate().low(1, 1).low(1, 2).fixed('a').fixed(257).high(29, 5)
                .low(8191, 13).fixed(256).align().low(0, 32), -7, "61");
        flate("back without any", Bits.flate().low(1, 1).low(1, 2).fixed(257).high(0, 5).fixed(256), -4, "");
    }

    /** The head of a block with told codes: how many of each, then lengths of 16, 17, 18, 0, 8, 7, .. */
    private static Bits head(int a, int b, int... lengths) {
        Bits stream = Bits.flate().low(1, 1).low(2, 2).low(a, 5).low(b, 5).low(lengths.length - 4, 4);
        for (int length : lengths) {
            stream.low(length, 3);
        }
        return stream;
    }

    private static void tellers() {
        flate("tellers over-full", head(0, 0, 1, 1, 1, 0).low(0, 32), -6, "");
        flate("tellers with holes", head(0, 0, 0, 0, 2, 2).low(0, 32), -6, "");
        flate("no tellers", head(0, 0, 0, 0, 0, 0).low(0, 32), -6, "");
        flate("one teller of two bits", head(0, 0, 0, 0, 2, 0).low(0, 32), -6, "");
        flate("tellers cut", Bits.flate().low(1, 1).low(2, 2).low(0, 5).low(0, 5).low(15, 4), -6, "");
        // One alone, 18 with one bit, is allowed; then all lengths are 0, which symbols may not be.
        flate("one teller alone", head(0, 0, 0, 0, 1, 0).raw("0").low(127, 7).raw("0").low(109, 7).low(0, 32),
                -8, "");
        flate("one teller alone, another code", head(0, 0, 0, 0, 1, 0).raw("1").low(0, 32), -6, "");
        // 16 has code 0, 18 has code 1: 29 bits are told before.
        flate("16 as the first", head(0, 0, 1, 0, 1, 0).raw("0").low(0, 32), -6, "");
        flate("more than there are", head(0, 0, 1, 0, 1, 0).raw("1").low(127, 7).raw("1").low(110, 7).low(0, 32),
                -8, "");
        flate("just as many, all 0", head(0, 0, 1, 0, 1, 0).raw("1").low(127, 7).raw("1").low(109, 7).low(0, 32),
                -8, "");
        flate("16 repeats a 0 and goes beyond", head(0, 0, 1, 0, 1, 0).raw("1").low(127, 7).raw("1").low(108, 7)
                .raw("0").low(0, 2).low(0, 32), -8, "");
    }

    // Tellers 1, 18, 0 and 2 by two bits each: 0 is 00, 1 is 01, 2 is 10, 18 is 11.
    private static Bits four(int a, int b) {
        return head(a, b, 0, 0, 2, 2, 0, 0, 0, 0, 0, 0, 0, 0, 0, 0, 0, 2, 0, 2);
    }

    private static Bits zeros(Bits stream, int count) {
        return stream.raw("11").low(count - 11, 7);
    }

    private static void toldCodes() {
        // Symbols a, 256 by one bit; a distance 0 by one bit.
        Bits good = zeros(zeros(four(0, 0), 97).raw("01"), 138);
        flate("two symbols", zeros(good, 20).raw("01 01").raw("0 0 1").align().low(0, 32), 2, "6161");
        Bits over = zeros(zeros(four(0, 0), 97).raw("01 01"), 138);
        flate("symbols over-full", zeros(over, 19).raw("01 01").raw("0 0 1").low(0, 32), -16, "");
        Bits holes = zeros(zeros(four(0, 0), 97).raw("01"), 138);
        flate("symbols with holes", zeros(holes, 20).raw("10 01").raw("0 0 1").low(0, 32), -15, "");
        Bits far = zeros(zeros(four(0, 2), 97).raw("01"), 138);
        flate("distances over-full", zeros(far, 20).raw("01 01 01 01").low(0, 32), -16, "");
        Bits farHoles = zeros(zeros(four(0, 2), 97).raw("01"), 138);
        flate("distances with holes", zeros(farHoles, 20).raw("01 10 10 10").low(0, 32), -16, "");
        Bits none = zeros(zeros(four(0, 0), 97).raw("01"), 138);
        flate("no distances", zeros(none, 20).raw("01 00").raw("0 1").align().low(0, 32), 1, "61");
        Bits noEnd = zeros(zeros(four(0, 0), 97).raw("01 01"), 138);
        flate("256 may be none, then only the bytes' end ends it", zeros(noEnd, 19).raw("00 00").raw("0 1 0 1 1 1"),
                -1 - 16, "616261626262");
        // Behind 257 lengths one is left, and 18 tells eleven zeros, though the codes would be good.
        Bits beyond = zeros(zeros(zeros(four(0, 0), 97).raw("01"), 138), 20).raw("01");
        flate("more than there are, behind good ones", zeros(beyond, 11).raw("0 0 1").align().low(0, 32), -1 - 15, "");
        toldTwice();
        longestCodes();
        // 288 symbols and 32 distances may be told; 286, 287, 30, 31 are none when they come.
        Bits many = zeros(zeros(zeros(four(31, 31), 97).raw("10"), 138), 20).raw("10");
        many = zeros(many, 29).raw("10 10");
        many = zeros(many, 30).raw("01 01").raw("00 10").low(0, 32);
        flate("symbol 286 by told codes", many, -1 - 18, "61");
    }

    /** The second block has fewer lengths than the first; none of these may stay. */
    private static void toldTwice() {
        Bits first = Bits.flate().low(0, 1).low(2, 2);
        tellAThree(first, 1).raw("0").raw("1");
        Bits second = first.low(1, 1).low(2, 2);
        tellAThree(second, 0).raw("0 0").raw("1").align().low(0, 32);
        flate("told twice", second, 3, "616161");
    }

    /** Symbols a, 256 by one bit; two distances by one bit each, or one alone. */
    private static Bits tellAThree(Bits stream, int b) {
        stream.low(0, 5).low(b, 5).low(14, 4);
        for (int length : new int[] {0, 0, 2, 2, 0, 0, 0, 0, 0, 0, 0, 0, 0, 0, 0, 2, 0, 2}) {
            stream.low(length, 3);
        }
        return zeros(zeros(zeros(stream, 97).raw("01"), 138), 20).raw("01").raw(b == 1 ? "01 01" : "01");
    }

    /** Symbols 0 .. 14 have 1 .. 15 bits, 256 has 15: codes 0, 10, 110, .., by tellers of four bits and 18. */
    private static void longestCodes() {
        Bits stream = head(0, 0, 0, 0, 1, 5, 5, 5, 5, 5, 5, 5, 5, 5, 5, 5, 5, 5, 5, 5, 5);
        for (int length = 1; length <= 15; length++) {
            stream.raw("1").high(length, 4);
        }
        stream.raw("0").low(138 - 11, 7).raw("0").low(103 - 11, 7).raw("1").high(15, 4).raw("1").high(0, 4);
        StringBuilder due = new StringBuilder();
        for (int symbol = 0; symbol < 15; symbol++) {
            stream.raw("1".repeat(symbol)).raw("0");
            due.append(String.format("%02x", symbol));
        }
        flate("codes of 15 bits", stream.raw("1".repeat(15)).align().low(0, 32), 15, due.toString());
    }

    private static void loneCodes() {
        // Only 256, by one bit: 0 is it, 1 is none.
        Bits lone = zeros(zeros(four(0, 0), 138), 118).raw("01 00");
        flate("256 alone", lone.raw("0").align().low(0, 24).low(1, 8), 0, "");
        Bits none = zeros(zeros(four(0, 0), 138), 118).raw("01 00");
        flate("no such code, known by one bit", none.raw("1").low(0, 32), -1 - 13, "");
        // a and 256 by two bits, 257 by one, distance 1 alone by one bit.
        Bits one = zeros(zeros(zeros(four(1, 0), 97).raw("10"), 138), 20).raw("10 01 01");
        flate("one distance", one.raw("10 0 0 11").align().low(0, 32), 4, "61616161");
        Bits other = zeros(zeros(zeros(four(1, 0), 97).raw("10"), 138), 20).raw("10 01 01");
        flate("one distance, another code", other.raw("10 0 1 11").low(0, 32), -1 - 15, "61");
        Bits no = zeros(zeros(zeros(four(1, 0), 97).raw("10"), 138), 20).raw("10 01 00");
        flate("a match without distances", no.raw("10 0 1 11").low(0, 32), -1 - 15, "61");
    }

    private static void bound() {
        byte[] stored = Check.fromHex("7801010300fcff616263");
        Check.unpacks("stored beyond the bound", 2, 0, stored, -1 - 9, "6162");
        byte[] fixed = Bits.flate().low(1, 1).low(1, 2).fixed('a').fixed('b').fixed('c').fixed(256).done(0);
        Check.unpacks("the third byte beyond the bound", 2, 0, fixed, -1 - 5, "6162");
        Check.unpacks("just the bound", 3, 0, fixed, 3, "616263");
        byte[] match = Bits.flate().low(1, 1).low(1, 2).fixed('a').fixed(264).high(0, 5).fixed(256).done(0);
        Check.unpacks("a match beyond the bound", 7, 0, match, -1 - 4, "61616161616161");
        Check.unpacks("bound 0", 0, 0, match, -1 - 3, "");
        Check.unpacks("nothing and bound 0", 0, 0, Check.fromHex("7801030000000001"), 0, "");
    }

    private static void sums() {
        FlateFilter x = Check.with(Check.fromHex("78014b040000620063"));
        Check.same("a sum that differs is no fault", x.unpack(0), 1);
        Check.same("it differs", x.differs() ? 1 : 0, 1);
        x.pack(0, 0);
        Check.same("packing leaves it", x.differs() ? 1 : 0, 1);
        Check.refused("a wrong kind", IllegalArgumentException.class, () -> x.unpack(5));
        Check.same("a call that throws leaves it", x.differs() ? 1 : 0, 1);
        for (int kind = 1; kind <= 4; kind++) {
            x.unpack(kind);
            Check.same("kind " + kind + " never differs", x.differs() ? 1 : 0, 0);
            x.unpack(0);
            Check.same("it differs again", x.differs() ? 1 : 0, 1);
        }
        x.predictor(12, 1, 8, 1);
        x.unpack(0);
        Check.same("it differs with a predictor", x.differs() ? 1 : 0, 1);
        FlateFilter good = Check.with(Check.fromHex("78014b040000620062"));
        good.unpack(0);
        Check.same("the sum is right", good.differs() ? 1 : 0, 0);
        FlateFilter cut = Check.with(Check.fromHex("78014b0400996201"));
        cut.unpack(0);
        Check.same("a cut sum does not differ", cut.differs() ? 1 : 0, 0);
        FlateFilter zero = Check.with(Check.fromHex("78014b040000000000"));
        zero.unpack(0);
        Check.same("a sum of 0 differs", zero.differs() ? 1 : 0, 1);
        FlateFilter low = Check.with(Check.fromHex("78014b040000620000"));
        low.unpack(0);
        Check.same("a lower half of 0 differs", low.differs() ? 1 : 0, 1);
        FlateFilter none = Check.with(Check.fromHex("7801010000ffff00000002"));
        none.unpack(0);
        Check.same("of nothing it differs", none.differs() ? 1 : 0, 1);
        for (int place = 5; place < 9; place++) {
            byte[] stream = Check.fromHex("78014b040000620062");
            stream[place] ^= (byte) 128;
            FlateFilter y = Check.with(stream);
            y.unpack(0);
            Check.same("byte " + place + " of the sum counts", y.differs() ? 1 : 0, 1);
        }
        FlateFilter full = Check.with(1, Check.fromHex("78014b4a040000000000"));
        full.unpack(0);
        Check.same("beyond the bound it does not differ", full.differs() ? 1 : 0, 0);
    }

    /** What the Java library packs; its lowest level begins with 120 and 1. */
    private static void anotherPacks() {
        Random random = new Random(11);
        for (int round = 0; round < 300; round++) {
            byte[] data = Samples.of(random, round % 9);
            Deflater deflater = new Deflater(round % 2);
            deflater.setStrategy(round % 3 == 0 ? Deflater.HUFFMAN_ONLY : Deflater.DEFAULT_STRATEGY);
            deflater.setInput(data);
            deflater.finish();
            byte[] packed = new byte[2000];
            int size = deflater.deflate(packed);
            deflater.end();
            if (size > 800 || packed[1] != 1) {
                continue;
            }
            FlateFilter x = Check.with(java.util.Arrays.copyOf(packed, size));
            Check.same("round " + round, x.unpack(0), data.length);
            Check.same("round " + round + " the out", Check.hexOf(x), Check.hex(data));
            Check.same("round " + round + " differs", x.differs() ? 1 : 0, 0);
        }
    }

    private static void cutEverywhere() {
        byte[] data = Check.text("abracadabra abracadabra aaaaaaaaaaaaaaaaaaaaa bcbcbcbcbcb abracad");
        String whole = Check.hex(data);
        for (int level = 0; level <= 2; level++) {
            FlateFilter x = Check.with(data);
            x.pack(0, level);
            byte[] packed = Check.outOf(x);
            for (int size = 0; size < packed.length; size++) {
                FlateFilter y = Check.with(java.util.Arrays.copyOf(packed, size));
                Check.same("level " + level + " cut to " + size, y.unpack(0), -1 - size);
                Check.same("it begins alike", whole.startsWith(Check.hexOf(y)) ? 1 : 0, 1);
            }
        }
    }
}
