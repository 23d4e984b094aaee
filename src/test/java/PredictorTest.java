/** Promise 6, and what a predictor does to packing and unpacking: each sentence with its edges. */
public final class PredictorTest {
    public static void main(String[] args) {
        rows();
        kinds();
        colours();
        bits();
        columns();
        bitsOfTwo();
        noneIsRefusedToo();
        noneAgain();
        rowsFilledUpward();
        lastRow();
        steps();
        two();
        ten();
        eleven();
        twelve();
        thirteen();
        fourteen();
        fourteenAlike();
        fifteen();
        fifteenAbove127();
        fifteenFirst();
        modulo();
        ownByte();
        above4();
        rowOfNothing();
        kindsZeroAndOne();
        boundBefore();
        boundWhenPacked();
        faultBehindIt();
        Check.end();
    }

    private static void rows() {
        Check.sentence("A predictor (0 none, 2, 10 .. 15): how many bytes a row has");
        Run x = new Run(0);
        Check.same("0", x.predictor(0, 1, 8, 5), 5);
        Check.same("2", x.predictor(2, 3, 8, 7), 21);
        for (int kind = 10; kind <= 15; kind++) {
            Check.same("" + kind, x.predictor(kind, 2, 8, kind), 2 * kind);
        }
        Check.same("the greatest row", x.predictor(15, 4, 8, 64), 256);
        Check.same("the greatest row of 2", x.predictor(2, 4, 8, 64), 256);
        Check.same("the least one", x.predictor(15, 1, 1, 1), 1);
    }

    private static void refused(String what, int kind, int colours, int bits, int columns) {
        Run x = Run.with(Check.bytes(1, 2, 3, 4));
        x.predictor(12, 1, 8, 2);
        Check.same(what, x.predictor(kind, colours, bits, columns), 0);
        x.pack(0, 0);
        Check.same(what + ": the one before stays", inner(x), "020102" + "020202");
    }

    private static void kinds() {
        Check.sentence("0, and it is not (the one before stays), when kind is another");
        for (int kind : new int[] {Integer.MIN_VALUE, -10, -2, -1, 1, 3, 4, 8, 9, 16, 17, 256, Integer.MAX_VALUE}) {
            refused("kind " + kind, kind, 1, 8, 1);
        }
    }

    private static void colours() {
        Check.sentence("0, and it is not (the one before stays), when colours not 1 .. 4");
        for (int colours : new int[] {Integer.MIN_VALUE, -1, 0, 5, 6, 256, Integer.MAX_VALUE}) {
            refused("colours " + colours, 10, colours, 8, 1);
            refused("colours " + colours + " of 2", 2, colours, 8, 1);
        }
        Check.same("1", new Run(0).predictor(10, 1, 8, 1), 1);
        Check.same("4", new Run(0).predictor(10, 4, 8, 1), 4);
    }

    private static void bits() {
        Check.sentence("0, and it is not (the one before stays), when bits not 1, 2, 4, 8");
        for (int bits : new int[] {Integer.MIN_VALUE, -8, -1, 0, 3, 5, 6, 7, 9, 16, 32, Integer.MAX_VALUE}) {
            refused("bits " + bits, 10, 1, bits, 1);
        }
        for (int bits : new int[] {1, 2, 4, 8}) {
            Check.same("bits " + bits, new Run(0).predictor(10, 1, bits, 8), bits);
        }
    }

    private static void columns() {
        Check.sentence("0, and it is not (the one before stays), when columns not 1 .. 64");
        for (int columns : new int[] {Integer.MIN_VALUE, -1, 0, 65, 66, 256, 1 << 29, Integer.MAX_VALUE}) {
            refused("columns " + columns, 10, 1, 8, columns);
            refused("columns " + columns + " of 2", 2, 1, 8, columns);
        }
        Check.same("1", new Run(0).predictor(10, 1, 8, 1), 1);
        Check.same("64", new Run(0).predictor(10, 1, 8, 64), 64);
    }

    private static void bitsOfTwo() {
        Check.sentence("0, and it is not (the one before stays), when kind is 2, and bits not 8");
        for (int bits : new int[] {1, 2, 4}) {
            refused("2 and bits " + bits, 2, 1, bits, 8);
            Check.same("10 and bits " + bits, new Run(0).predictor(10, 1, bits, 8), bits);
            Check.same("0 and bits " + bits, new Run(0).predictor(0, 1, bits, 8), bits);
        }
        Check.same("2 and bits 8", new Run(0).predictor(2, 1, 8, 8), 8);
    }

    private static void noneIsRefusedToo() {
        Check.sentence("0, and it is not (the one before stays), when kind is another, colours not 1 .. 4, "
                + "bits not 1, 2, 4, 8, columns not 1 .. 64");
        refused("0 and colours 0", 0, 0, 8, 1);
        refused("0 and bits 5", 0, 1, 5, 1);
        refused("0 and columns 0", 0, 1, 8, 0);
        refused("0 and columns 65", 0, 1, 8, 65);
    }

    private static void noneAgain() {
        Check.sentence("A predictor (0 none, 2, 10 .. 15)");
        Run x = Run.with(Check.bytes(1, 2, 3, 4));
        x.predictor(12, 1, 8, 2);
        x.predictor(0, 1, 8, 2);
        x.pack(0, 0);
        Check.same("none", inner(x), "01020304");
        x.predictor(2, 1, 8, 4);
        x.pack(0, 0);
        Check.same("another", inner(x), "01010101");
    }

    /** What level 0 of FLATE stored. */
    private static String inner(Run x) {
        String all = x.outHex();
        return all.substring(14, all.length() - 8);
    }

    private static void filters(String what, int kind, int colours, int bits, int columns, byte[] data, String due) {
        Run x = Run.with(data);
        x.predictor(kind, colours, bits, columns);
        x.pack(0, 0);
        Check.same(what, inner(x), due);
        String all = x.outHex();
        Check.same(what + ": its sum is of what was packed", all.substring(all.length() - 8),
                String.format("%08x", Run.adler(Check.fromHex(due))));
        x.chain(-1);
        Check.same(what + ": back", x.unpack(0), data.length);
        x.outIs(what + ": back", data);
        Check.no(what + ": the sum differs", x.differs());
    }

    private static void rowsFilledUpward() {
        Check.sentence("rows of as many bytes as colours, bits and columns fill (upward)");
        Run x = new Run(0);
        int[][] sizes = {{1, 1, 1, 1}, {1, 1, 7, 1}, {1, 1, 8, 1}, {1, 1, 9, 2}, {1, 1, 64, 8}, {1, 2, 4, 1}, {1, 2, 5, 2},
            {3, 2, 1, 1}, {3, 2, 3, 3}, {3, 4, 1, 2}, {3, 4, 5, 8}, {4, 1, 2, 1}, {4, 1, 3, 2}, {3, 1, 63, 24}, {1, 4, 1, 1},
            {1, 4, 3, 2}, {4, 4, 64, 128}, {3, 1, 3, 2}};
        for (int[] size : sizes) {
            Check.same(size[0] + " " + size[1] + " " + size[2], x.predictor(11, size[0], size[1], size[2]), size[3]);
        }
        // Nine bits are two bytes: the third one begins a row.
        filters("nine bits", 11, 1, 1, 9, Check.bytes(1, 3, 6, 10), "010102" + "010604");
    }

    private static void lastRow() {
        Check.sentence("the last one perhaps shorter");
        byte[] data = Check.bytes(1, 2, 4, 8, 16, 32, 64);
        filters("one of three", 12, 1, 8, 3, data, "02010204" + "02070e1c" + "0238");
        filters("two of five", 12, 1, 8, 5, data, "020102040810" + "021f3e");
        filters("one alone", 11, 1, 8, 64, Check.bytes(9), "0109");
        filters("a full one", 11, 1, 8, 7, data, "0101010204081020");
        filters("of 2", 2, 1, 8, 3, data, "010102" + "080810" + "40");
        filters("none", 15, 1, 8, 3, new byte[0], "");
        filters("none of 2", 2, 1, 8, 3, new byte[0], "");
    }

    private static void steps() {
        Check.sentence("w is colours * bits / 8, 1 at least");
        byte[] data = Check.bytes(1, 2, 4, 8, 16, 32, 64);
        filters("1 bit", 11, 1, 1, 32, data, "0101010204" + "01101020");
        filters("4 bits", 11, 4, 1, 8, data, "0101010204" + "01101020");
        filters("6 bits", 11, 3, 2, 4, data, "01010102" + "01080810" + "0140");
        filters("8 bits", 11, 4, 2, 4, data, "0101010204" + "01101020");
        filters("12 bits", 11, 3, 4, 2, data, "01010102" + "01080810" + "0140");
        filters("16 bits", 11, 4, 4, 2, data, "0101020306" + "01102030");
        filters("24 bits", 11, 3, 8, 2, data, "010102040" + "70e1c" + "0140");
        filters("32 bits", 11, 4, 8, 2, data, "01010204080f1e3c");
        filters("32 bits in rows of one", 11, 4, 8, 1, data, "0101020408" + "01102040");
    }

    private static void two() {
        Check.sentence("2: each byte less the one w before it in the row (0 without)");
        byte[] data = Check.bytes(10, 20, 5, 12, 25, 255, 7);
        filters("w 1", 2, 1, 8, 3, data, "0a0af1" + "0c0de6" + "07");
        filters("w 2", 2, 2, 8, 2, data, "0a14fbf8" + "19ffee");
        filters("w 4, rows of one", 2, 4, 8, 1, data, "0a14050c" + "19ff07");
        filters("rows of one byte", 2, 1, 8, 1, data, "0a14050c19ff07");
    }

    private static final byte[] SEVEN = Check.bytes(10, 20, 5, 12, 25, 255, 7);

    private static void ten() {
        Check.sentence("10 .. 14: each row has a byte 0 .. 4 before it: 0 as it is");
        filters("10", 10, 1, 8, 3, SEVEN, "000a1405" + "000c19ff" + "0007");
    }

    private static void eleven() {
        Check.sentence("1 less the one w before");
        filters("11", 11, 1, 8, 3, SEVEN, "010a0af1" + "010c0de6" + "0107");
    }

    private static void twelve() {
        Check.sentence("2 less the one above (0 in the first row)");
        filters("12", 12, 1, 8, 3, SEVEN, "020a1405" + "020205fa" + "02fb");
    }

    private static void thirteen() {
        Check.sentence("3 less half the sum of these, downward");
        // Halves of 0, 10, 20; then of 10, 12 + 20, 25 + 5; then of 12.
        filters("13", 13, 1, 8, 3, SEVEN, "030a0ffb" + "030709f0" + "0301");
        // 255 + 254: the half is 254, not that of what is left of 256.
        filters("above 255", 13, 1, 8, 2, Check.bytes(255, 254, 255, 1), "03ff7f" + "038003");
        filters("1 is 0", 13, 1, 8, 2, Check.bytes(1, 1), "030101");
    }

    private static void fourteen() {
        Check.sentence("4 less the one of a (w before), b (above), c (w before that; 0 without any) that is nearest to a + b - c");
        // The first row as by 1; then 10 above; a 12, b 20, c 10: 22, nearest 20; a 25, b 5, c 20: 10, nearest 5.
        filters("14", 14, 1, 8, 3, SEVEN, "040a0af1" + "040205fa" + "04fb");
        // a 5, b 15, c 10: 10.
        filters("c is the nearest", 14, 1, 8, 2, Check.bytes(10, 15, 5, 11), "040a05" + "04fb01");
        // a 200, b 100, c 10: 290, nearest 200; a 10, b 20, c 200: -170, nearest 10.
        filters("beyond 255", 14, 1, 8, 2, Check.bytes(10, 100, 200, 7), "040a5a" + "04be3f");
        filters("below 0", 14, 1, 8, 2, Check.bytes(200, 20, 10, 7), "04c84c" + "0442fd");
        filters("w 4", 14, 4, 8, 2, Check.bytes(1, 2, 3, 4, 5, 6, 7, 8, 9, 9, 9, 9, 1, 1, 1, 1),
                "040102030404040404" + "0408070605" + "f8f8f8f8");
    }

    private static void fourteenAlike() {
        Check.sentence("nearest to a + b - c (of alike ones in this order)");
        // a 8, b 11, c 10: 9, as near to a as to c.
        filters("a before c", 14, 1, 8, 2, Check.bytes(10, 11, 8, 8), "040a01" + "04fe00");
        // a 11, b 8, c 10: 9, as near to b as to c.
        filters("b before c", 14, 1, 8, 2, Check.bytes(10, 8, 11, 20), "040afe" + "04010c");
        // a 12, b 12, c 9: 15.
        filters("a and b alike", 14, 1, 8, 2, Check.bytes(9, 12, 12, 13), "040903" + "040301");
        // a 6, b 12, c 12: 6.
        filters("a itself", 14, 1, 8, 2, Check.bytes(12, 12, 6, 9), "040c00" + "04fa03");
        // a 5, b 1, c 5: 1.
        filters("b itself", 14, 1, 8, 2, Check.bytes(5, 1, 5, 9), "0405fc" + "040008");
        // a 10, b 14, c 0: 24, nearest 14.
        filters("the greater of a and b", 14, 1, 8, 2, Check.bytes(0, 14, 10, 30), "04000e" + "040a10");
    }

    private static void fifteen() {
        Check.sentence("15: of each row the one of 0 .. 4 with the least sum of its bytes");
        filters("1, then 2", 15, 1, 8, 4, Check.bytes(10, 11, 12, 13, 11, 12, 13, 14), "010a010101" + "0201010101");
        filters("0", 15, 1, 8, 4, Check.bytes(1, 255, 1, 255, 255, 1, 255, 1), "0001ff01ff" + "00ff01ff01");
        filters("3", 15, 1, 8, 2, Check.bytes(255, 127), "03ff00");
        filters("4", 15, 1, 8, 2, Check.bytes(200, 201, 199, 200), "01c801" + "04ff00");
        // 99, 50 below 100, 101: by 2 -1 and -51, by 4 -1 and, less the 100 that is nearest to 99 + 101 - 100, -50.
        filters("each row its own, the last one shorter", 15, 1, 8, 2, Check.bytes(100, 100, 100, 101, 99, 50, 99),
                "016400" + "020001" + "04ffce" + "0200");
    }

    private static void fifteenAbove127() {
        Check.sentence("with the least sum of its bytes (those above 127 as 256 less them)");
        // As they are 127 and 127 make 254; less the one before 127 and 0.
        filters("127", 15, 1, 8, 2, Check.bytes(127, 127), "017f00");
        // By 0 1 + 128, by 1 1 + 127.
        filters("127 counts 127", 15, 1, 8, 2, Check.bytes(1, 128), "01017f");
        // Alone in the first row it is the same by all.
        filters("128 alone", 15, 1, 8, 1, Check.bytes(128), "0080");
        // By 0 it is 128 and 129, 128 + 127; by 1 128 and 1.
        filters("128 and 129", 15, 1, 8, 2, Check.bytes(128, 129), "018001");
        // By 0 1 + 1, by 1 1 + 2 (255, then 2): 255 counts 1.
        filters("255 counts 1", 15, 1, 8, 2, Check.bytes(255, 1), "00ff01");
        // 129 below 0 is the same by all; 2 below 129 is by 2 again 129, and by 0 less.
        filters("129 counts 127", 15, 1, 8, 1, Check.bytes(0, 129, 2), "0000" + "0081" + "0002");
        // 129 less 1 is 128, which counts 128; as it is it counts 127.
        filters("129 below 1", 15, 1, 8, 1, Check.bytes(1, 129), "0001" + "0081");
        filters("130 below 3: 127 by 2, 126 by 0", 15, 1, 8, 1, Check.bytes(3, 130), "0003" + "0082");
        filters("130 below 4: 126 by 0 and by 2", 15, 1, 8, 1, Check.bytes(4, 130), "0004" + "0082");
        filters("130 below 5: 125 by 2", 15, 1, 8, 1, Check.bytes(5, 130), "0005" + "027d");
    }

    private static void fifteenFirst() {
        Check.sentence("15: of each row the one of 0 .. 4 with the least sum of its bytes, the first of these");
        filters("all alike", 15, 1, 8, 3, Check.bytes(0, 0, 0, 0, 0, 0), "00000000" + "00000000");
        filters("1 and 4 in the first row", 15, 1, 8, 3, Check.bytes(50, 51, 52), "01320101");
        filters("2 and 4 in a row of one", 15, 1, 8, 1, Check.bytes(50, 51), "0032" + "0201");
        // 3 below 4 is by 0 3, by 2, 3 and 4 1.
        filters("2, 3 and 4", 15, 1, 8, 1, Check.bytes(4, 3), "0004" + "02ff");
        // 2 below 4 is by 0 and by 2 2, by 3 0.
        filters("3 is less", 15, 1, 8, 1, Check.bytes(4, 2), "0004" + "0300");
        // By 0 10 + 5, by 1 10 + 5, by 3 10 + 0.
        filters("3, though 0 and 1 are alike", 15, 1, 8, 2, Check.bytes(10, 5), "030a00");
        // w is 4: there is no byte before, and none above.
        filters("all alike, with bytes", 15, 4, 8, 1, Check.bytes(9, 8, 7), "00090807");
    }

    private static void modulo() {
        Check.sentence("All modulo 256.");
        filters("below 0", 11, 1, 8, 3, Check.bytes(1, 0, 255), "0101ffff");
        filters("by 2", 2, 1, 8, 3, Check.bytes(255, 0, 254), "ff01fe");
        filters("above", 12, 1, 8, 1, Check.bytes(255, 0, 255), "02ff" + "0201" + "02ff");
        filters("half", 13, 1, 8, 2, Check.bytes(200, 0), "03c89c");
        filters("nearest", 14, 1, 8, 2, Check.bytes(200, 0), "04c838");
        unpacks("beyond 255", 10, 2, Check.bytes(1, 200, 200, 2, 100, 255, 3, 255, 255, 4, 255, 255),
                "c890" + "2c8f" + "15" + "51" + "14" + "50");
    }

    private static void unpacks(String what, int kind, int columns, byte[] raw, String due) {
        for (int by = 0; by <= 1; by++) {
            Run x = Run.with(raw);
            x.pack(by, 0);
            x.chain(-1);
            x.predictor(kind, 1, 8, columns);
            Check.same(what, x.unpack(by), due.length() / 2);
            x.outIs(what, due);
        }
    }

    private static void ownByte() {
        Check.sentence("Unpacking, each row has its own byte");
        for (int kind = 10; kind <= 15; kind++) {
            unpacks("by " + kind, kind, 2, Check.bytes(0, 1, 2, 1, 1, 2, 2, 1, 1, 3, 2, 2, 4, 1, 1),
                    "0102" + "0103" + "0204" + "0305" + "0406");
        }
        unpacks("2 has none", 2, 2, Check.bytes(1, 2, 3, 4, 5), "0103030705");
    }

    private static void above4() {
        Check.sentence("Unpacking, each row has its own byte, above 4 as 0");
        for (int way : new int[] {5, 6, 127, 128, 129, 132, 254, 255}) {
            unpacks("" + way, 14, 2, Check.bytes(2, 1, 2, way, 3, 4), "01020304");
        }
        unpacks("4 is 4", 14, 2, Check.bytes(2, 1, 2, 4, 3, 4), "01020408");
    }

    private static void rowOfNothing() {
        Check.sentence("the last one perhaps shorter");
        unpacks("only its byte", 12, 2, Check.bytes(2, 1, 2, 2), "0102");
        unpacks("a byte and no row at all", 12, 2, Check.bytes(2), "");
        unpacks("nothing", 12, 2, new byte[0], "");
        unpacks("nothing by 2", 2, 2, new byte[0], "");
        unpacks("one of three", 12, 3, Check.bytes(2, 1, 2, 3, 2, 1), "01020302");
    }

    private static void kindsZeroAndOne() {
        Check.sentence("A PREDICTOR (kinds 0 and 1; before packing, behind unpacking)");
        for (int kind = 2; kind <= 4; kind++) {
            Run x = Run.with(Check.text("abcdef"));
            x.pack(kind, 0);
            String plain = x.outHex();
            x.predictor(15, 1, 8, 2);
            x.pack(kind, 0);
            x.outIs("kind " + kind + " goes without", plain);
            x.chain(-1);
            x.unpack(kind);
            x.outIs("kind " + kind + " comes without", "616263646566");
            Check.same("kind " + kind + " is chained without", x.chain(kind), plain.length() / 2);
            x.outIs("kind " + kind + " is chained without", plain);
        }
        Run dictionary = Run.with(Check.bytes(7, 7, 7));
        dictionary.predictor(2, 1, 8, 3);
        dictionary.pack(1, 0);
        dictionary.outIs("the dictionary goes with it",
                Bits.dictionary().high(256, 9).high(7, 9).high(0, 9).high(0, 9).high(257, 9).done());
        dictionary.chain(-1);
        Check.same("the dictionary comes with it", dictionary.unpack(1), 3);
        dictionary.outIs("the dictionary comes with it", "070707");
        for (int level = 1; level <= 3; level++) {
            Run flate = Run.with(Check.bytes(7, 8, 9));
            flate.predictor(2, 1, 8, 3);
            flate.pack(0, level);
            flate.outIs("FLATE of level " + level, Oracle.flate(Check.bytes(7, 1, 1), level));
        }
    }

    private static void boundBefore() {
        Check.sentence("when it is unpacked, what goes to a predictor is not either");
        // Six bytes go to the predictor, four come: the bound counts both.
        byte[] stream = Check.fromHex("7801 01 0600f9ff 000102 000304 00000000");
        Run x = Run.with(6, stream);
        x.predictor(10, 1, 8, 2);
        Check.same("six", x.unpack(0), 4);
        x.outIs("six", "01020304");
        Run y = Run.with(5, stream);
        y.predictor(10, 1, 8, 2);
        Check.same("five", y.unpack(0), -1 - 12);
        y.outIs("five", "010203");
        Run z = Run.with(4, stream);
        z.predictor(10, 1, 8, 2);
        Check.same("four, as many as come", z.unpack(0), -1 - 11);
        z.outIs("four, as many as come", "0102");
        Run none = Run.with(0, stream);
        none.predictor(10, 1, 8, 2);
        Check.same("none", none.unpack(0), -1 - 7);
        none.outIs("none", "");
        byte[] codes = Bits.dictionary().high(0, 9).high(7, 9).high(0, 9).high(8, 9).high(257, 9).done();
        Run word = Run.with(3, codes);
        word.predictor(10, 1, 8, 1);
        Check.same("the dictionary", word.unpack(1), -1 - 4);
        word.outIs("the dictionary", "07");
    }

    private static void boundWhenPacked() {
        Check.sentence("THE OUT, which is never longer than a bound");
        Run z = Run.with(16, Check.bytes(1, 2, 3));
        z.predictor(10, 1, 8, 1);
        Check.refused("three bytes with one before each", UnsupportedOperationException.class, () -> z.pack(0, 0));
        Run just = Run.with(17, Check.bytes(1, 2, 3));
        just.predictor(10, 1, 8, 1);
        Check.same("just the bound", just.pack(0, 0), 17);
        // 400 bytes alike become 800 for rows of one byte and are packed to few again.
        Run many = Run.with(60, Check.filled(400, 5));
        many.predictor(10, 1, 8, 1);
        Check.yes("a long way to a short out", many.pack(0, 3) <= 60);
    }

    private static void faultBehindIt() {
        Check.sentence("What came so far, up to the bound, is the out (with a predictor: behind it).");
        byte[] cut = Check.fromHex("7801 01 0600f9ff 010102 0103");
        Run x = Run.with(cut);
        x.predictor(10, 1, 8, 2);
        Check.same("cut within the second row", x.unpack(0), -1 - 12);
        x.outIs("cut within the second row", "010303");
        Run y = Run.with(Check.fromHex("7801 01 0600f9ff 010102 02"));
        y.predictor(10, 1, 8, 2);
        Check.same("cut behind a row's byte", y.unpack(0), -1 - 11);
        y.outIs("cut behind a row's byte", "0103");
        Run two = Run.with(Check.fromHex("7801 01 0600f9ff 010102"));
        two.predictor(2, 1, 8, 2);
        Check.same("cut, by 2", two.unpack(0), -1 - 10);
        two.outIs("cut, by 2", "010202");
        Run word = Run.with(Bits.dictionary().high(1, 9).high(7, 9).high(8, 9).high(300, 9).done());
        word.predictor(11, 1, 8, 2);
        Check.same("wrong, of the dictionary", word.unpack(1), -1 - 4);
        word.outIs("wrong, of the dictionary", "070f");
    }
}
