/** Promise 4 by FLATE, but for codes that are told: its frame, its blocks, what they bring, and faults. */
public final class UnpackFlateTest {
    public static void main(String[] args) {
        firstTwoBytes();
        orderOfBits();
        lastBlock();
        wayThree();
        restOfTheByte();
        storedLength();
        turnedLength();
        storedBytes();
        fixedSymbols();
        lengths();
        distances();
        distancesTooFar();
        runsIntoItself();
        acrossBlocks();
        noSuchSymbols();
        noSuchDistances();
        placeOfTheLastBit();
        bytesEnd();
        bytesBehind();
        bound();
        boundOfMatches();
        Check.end();
    }

    private static void flate(String what, Bits stream, int answer, String out) {
        Check.unpacks(what, 4000, 0, stream.done(), answer, out);
    }

    private static Bits fixed() {
        return Bits.flate().low(1, 1).low(1, 2);
    }

    private static void firstTwoBytes() {
        Check.sentence("FLATE: bytes 120 and 1, BLOCKS");
        byte[] good = Check.fromHex("78014b040000620062");
        Check.unpacks("120 and 1", 4000, 0, good, 1, "61");
        for (int first : new int[] {0, 119, 121, 255, 1, 248}) {
            good[0] = (byte) first;
            Check.unpacks("the first is " + first, 4000, 0, good, -1, "");
        }
        good[0] = 120;
        for (int second : new int[] {0, 2, 94, 156, 218, 129}) {
            good[1] = (byte) second;
            Check.unpacks("the second is " + second, 4000, 0, good, -2, "");
        }
        Check.unpacks("both are wrong", 4000, 0, Check.bytes(1, 120, 3, 0), -1, "");
        Check.unpacks("a wrong one alone", 4000, 0, Check.bytes(1), -1, "");
        Check.unpacks("no bytes", 4000, 0, new byte[0], -1, "");
        Check.unpacks("120 alone", 4000, 0, Check.bytes(120), -2, "");
        Check.unpacks("120 and 1 alone", 4000, 0, Check.bytes(120, 1), -3, "");
    }

    private static void orderOfBits() {
        Check.sentence("Bits are taken from a byte's lowest one on; numbers of several bits lowest first; "
                + "codes from their highest bit on.");
        // 1, 10; a: 10010001; length 19 .. 22 (269, 0001101) and 2 (01); distance 5, 6 (00100) and 0; the end.
        flate("written bit by bit", Bits.flate().raw("1 10 10010001 10010010 0001101 01 00000 0000000").align()
                .low(0, 32), 23, "6162" + "62".repeat(21));
        flate("a distance of five bits and more", Bits.flate()
                .raw("1 10 10010001 10010010 10010011 10010100 10010101 10010110 0000001 00100 1 0000000").align()
                .low(0, 32), 9, "616263646566" + "616263");
        Check.unpacks("written byte by byte", 4000, 0, Check.fromHex("78014b4c4a4e490500 05c801f0"), 5, "6162636465");
    }

    private static void lastBlock() {
        Check.sentence("A block: a bit, 1 for the last one");
        flate("the fourth is the last", Bits.flate().low(0, 1).low(1, 2).fixed('a').fixed(256)
                .low(0, 1).low(1, 2).fixed(256).low(0, 1).low(1, 2).fixed('b').fixed(256)
                .low(1, 1).low(1, 2).fixed('c').fixed(256).align().low(0, 32), 3, "616263");
        flate("what is behind the last one is no block", fixed().fixed('a').fixed(256).low(0, 1).low(1, 2)
                .fixed('b').fixed(256).align().low(0, 32), 1, "61");
        byte[] none = Bits.flate().low(0, 1).low(1, 2).fixed('a').fixed(256).done();
        Check.unpacks("no last one: the rest of the byte would be a block of way 0", 4000, 0, none,
                -1 - none.length, "61");
    }

    private static void wayThree() {
        Check.sentence("two bits: its way (3 is a fault)");
        flate("in the last block", Bits.flate().low(1, 1).low(3, 2).low(0, 24), -1 - 2, "");
        flate("in another one", Bits.flate().low(0, 1).low(3, 2).low(0, 24), -1 - 2, "");
        flate("behind a block", Bits.flate().low(0, 1).low(1, 2).fixed('a').fixed(256).low(1, 1).low(3, 2)
                .low(0, 24), -1 - 4, "61");
    }

    private static void restOfTheByte() {
        Check.sentence("Way 0: the rest of the byte is passed");
        for (int rest = 0; rest < 32; rest += 31) {
            flate("five bits, all " + (rest & 1), Bits.flate().low(1, 1).low(0, 2).low(rest, 5).low(1, 16)
                    .low(65534, 16).low('a', 8).low(0, 32), 1, "61");
        }
        // 3 + 9 + 7 bits, then 3 + 7: the three bits of way 0 are the last ones of a byte.
        flate("none is left", Bits.flate().low(0, 1).low(1, 2).fixed(200).fixed(256).low(0, 1).low(1, 2).fixed(256)
                .low(1, 1).low(0, 2).low(1, 16).low(65534, 16).low('a', 8).low(0, 32), 2, "c861");
        // 3 + 7, 3 + 7, 3 + 7 bits: the last one of the way is the first of a byte.
        flate("seven are left", Bits.flate().low(0, 1).low(1, 2).fixed(256).low(0, 1).low(1, 2).fixed(256)
                .low(0, 1).low(1, 2).fixed(256).low(1, 1).low(0, 2).low(127, 7).low(1, 16).low(65534, 16)
                .low('a', 8).low(0, 32), 1, "61");
    }

    private static void storedLength() {
        Check.sentence("a length (two bytes, lower first)");
        Check.unpacks("0", 4000, 0, Check.fromHex("7801 01 0000ffff 00000001"), 0, "");
        Check.unpacks("1", 4000, 0, Check.fromHex("7801 01 0100feff 61 00620062"), 1, "61");
        byte[] many = Check.join(Check.fromHex("7801 01 0001fffe"), Check.filled(256, 7), Check.bytes(0, 0, 0, 0));
        Check.unpacks("256", 4000, 0, many, 256, "07".repeat(256));
        byte[] lower = Check.join(Check.fromHex("7801 01 ff0000ff"), Check.filled(255, 7), Check.bytes(0, 0, 0, 0));
        Check.unpacks("255", 4000, 0, lower, 255, "07".repeat(255));
        Check.unpacks("65535, cut", 4000, 0, Check.fromHex("7801 01 ffff0000 61"), -1 - 8, "61");
        flate("0 and another block", Bits.flate().low(0, 1).low(0, 2).align().low(0, 16).low(65535, 16)
                .low(1, 1).low(1, 2).fixed('a').fixed(256).align().low(0, 32), 1, "61");
    }

    private static void turnedLength() {
        Check.sentence("65535 less it, likewise (else a fault, when all four were taken)");
        String[] wrong = {"0100fdff", "0100ffff", "0100fefe", "0100fe7f", "01000100", "0000feff", "0000fffe", "0100feef"};
        for (String four : wrong) {
            Check.unpacks(four, 4000, 0, Check.fromHex("7801 01" + four + "61 00620062"), -1 - 6, "");
        }
        Check.unpacks("a wrong one, three taken", 4000, 0, Check.fromHex("7801 01 0100fd"), -1 - 6, "");
        Check.unpacks("two taken", 4000, 0, Check.fromHex("7801 01 0100"), -1 - 5, "");
        Check.unpacks("one taken", 4000, 0, Check.fromHex("7801 01 01"), -1 - 4, "");
        Check.unpacks("none taken", 4000, 0, Check.fromHex("7801 01"), -1 - 3, "");
        flate("behind a block", Bits.flate().low(0, 1).low(1, 2).fixed('a').fixed(256).low(1, 1).low(0, 2).align()
                .low(1, 16).low(65533, 16).low('b', 8).low(0, 32), -1 - 8, "61");
    }

    private static void storedBytes() {
        Check.sentence("so many bytes");
        byte[] stream = Check.fromHex("7801 01 0300fcff 616263 024d0127");
        Check.unpacks("all", 4000, 0, stream, 3, "616263");
        for (int size = 7; size < 10; size++) {
            Check.unpacks("cut to " + size, 4000, 0, java.util.Arrays.copyOf(stream, size), -1 - size,
                    "616263".substring(0, 2 * (size - 7)));
        }
    }

    private static void fixedSymbols() {
        Check.sentence("symbols 0 .. 143 have 8 bits, .. 255 9, .. 279 7, .. 287 8");
        Block all = new Block();
        for (int value = 0; value < 256; value++) {
            all.alone(value);
        }
        Run x = Run.with(all.done());
        Check.same("all bytes", x.unpack(0), 256);
        x.outSums("all bytes", all.due());
        Check.no("all bytes: the sum", x.differs());
        flate("0, 143, 144, 255", Bits.flate().raw("1 10 00110000 10111111 110010000 111111111 0000000").align()
                .low(0, 32), 4, "008f90ff");
        flate("279, 280", Bits.flate().raw("1 10 00110000 0010111 0000 00000 11000000 0000 00000 0000000").align()
                .low(0, 32), 1 + 99 + 115, "00".repeat(215));
        flate("285", Bits.flate().raw("1 10 00110000 11000101 00000 0000000").align().low(0, 32), 259,
                "00".repeat(259));
    }

    private static void lengths() {
        Check.sentence("Symbol 257 + k: k < 8: 3 + k; 28: 258; else with e = k / 4 - 1 more bits, "
                + "whose number comes onto 3 + (4 + k % 4) 2^e.");
        int[] least = {3, 4, 5, 6, 7, 8, 9, 10, 11, 13, 15, 17, 19, 23, 27, 31, 35, 43, 51, 59, 67, 83, 99, 115,
            131, 163, 195, 227, 258};
        int[] widths = {0, 0, 0, 0, 0, 0, 0, 0, 1, 1, 1, 1, 2, 2, 2, 2, 3, 3, 3, 3, 4, 4, 4, 4, 5, 5, 5, 5, 0};
        for (int k = 0; k < 29; k++) {
            for (int more : new int[] {0, 1, (1 << widths[k]) - 1}) {
                if (more < 1 << widths[k]) {
                    Bits stream = fixed().fixed('a').fixed(257 + k).low(more, widths[k]).high(0, 5).fixed('b')
                            .fixed(256).align().low(0, 32);
                    flate("symbol " + (257 + k) + " and " + more, stream, least[k] + more + 2,
                            "61".repeat(least[k] + more + 1) + "62");
                }
            }
        }
    }

    private static void distances() {
        Check.sentence("Distance symbol k: k < 4: 1 + k; else with e = k / 2 - 1 more bits, onto 1 + (2 + k % 2) 2^e.");
        int[] least = {1, 2, 3, 4, 5, 7, 9, 13, 17, 25, 33, 49, 65, 97, 129, 193, 257, 385, 513, 769, 1025, 1537, 2049,
            3073};
        int[] widths = {0, 0, 0, 0, 1, 1, 2, 2, 3, 3, 4, 4, 5, 5, 6, 6, 7, 7, 8, 8, 9, 9, 10, 10};
        for (int k = 0; k < least.length; k++) {
            for (int more : new int[] {0, 1, (1 << widths[k]) / 2, (1 << widths[k]) - 1}) {
                int distance = least[k] + more;
                if (more < 1 << widths[k] && distance <= 3997) {
                    justFar("distance symbol " + k + " and " + more, k, more, widths[k], distance);
                }
            }
        }
        justFar("3997, just before the bound", 23, 3997 - 3073, 10, 3997);
    }

    /** A match from the very first byte that came, and one of which that byte is missing. */
    private static void justFar(String what, int k, int more, int width, int distance) {
        Block block = new Block().grow(distance);
        block.bits().fixed(257).high(k, 5).low(more, width);
        byte[] stream = block.came(3, distance).done();
        Run x = Run.with(stream);
        Check.same(what, x.unpack(0), distance + 3);
        x.outSums(what, block.due());
        Check.no(what + ": the sum", x.differs());
        if (distance > 1) {
            Block less = new Block().grow(distance - 1);
            less.bits().fixed(257).high(k, 5).low(more, width);
            int taken = less.bits().size();
            Run y = Run.with(less.bits().fixed(256).done(0));
            Check.same(what + ", one less has come", y.unpack(0), -1 - (taken - 1) / 8);
            y.outSums(what + ", one less has come", less.due());
        }
    }

    private static void distancesTooFar() {
        Check.sentence("a DISTANCE 1 .. 32768 back: so many bytes from there (a fault, where not so many have come)");
        flate("1 back, nothing has come", fixed().fixed(257).high(0, 5).fixed(256), -1 - 3, "");
        flate("2 back of one", fixed().fixed('a').fixed(257).high(1, 5).fixed(256), -1 - 4, "61");
        // Three bits, eight, seven, five: the more bits begin with the last one of the third byte.
        for (int k = 4; k <= 29; k++) {
            int width = k / 2 - 1;
            flate("distance symbol " + k, fixed().fixed('a').fixed(257).high(k, 5).low((1 << width) - 1, width)
                    .low(0, 40), -1 - (2 + (22 + width) / 8), "61");
        }
        flate("32768 back", fixed().fixed('a').fixed(257).high(29, 5).low(8191, 13).low(0, 40), -1 - 6, "61");
        byte[] cut = java.util.Arrays.copyOf(fixed().fixed('a').fixed(257).high(29, 5).low(8191, 13).done(), 6);
        Check.unpacks("32768 back, cut", 4000, 0, cut, -1 - 6, "61");
        flate("the first of two is good", fixed().fixed('a').fixed('b').fixed(257).high(1, 5).fixed(257).high(4, 5)
                .low(1, 1).low(0, 40), -1 - 7, "6162616261");
    }

    private static void runsIntoItself() {
        Check.sentence("so many bytes from there");
        Block block = new Block().alone('a').alone('b').alone('c').match(10, 3).match(3, 13).match(258, 2).match(5, 1)
                .match(7, 7).match(8, 7).match(6, 7);
        Run x = Run.with(block.done());
        Check.same("matches that run into themselves", x.unpack(0), 3 + 10 + 3 + 258 + 5 + 7 + 8 + 6);
        x.outSums("matches that run into themselves", block.due());
        flate("abcabcabca", fixed().fixed('a').fixed('b').fixed('c').fixed(261).high(2, 5).fixed(256).align()
                .low(0, 32), 10, "61626361626361626361");
    }

    private static void acrossBlocks() {
        Check.sentence("so many bytes from there");
        flate("from the block before", Bits.flate().low(0, 1).low(1, 2).fixed('a').fixed('b').fixed('c').fixed(256)
                .low(0, 1).low(0, 2).align().low(1, 16).low(65534, 16).low('d', 8)
                .low(1, 1).low(1, 2).fixed(258).high(3, 5).fixed(256).align().low(0, 32), 8, "6162636461626364");
    }

    private static void noSuchSymbols() {
        Check.sentence("286, 287, 30, 31 are none");
        flate("symbol 286", fixed().fixed('a').fixed(286).low(0, 40), -1 - 4, "61");
        flate("symbol 287", fixed().fixed('a').fixed(287).low(0, 40), -1 - 4, "61");
        flate("symbol 285 is one", fixed().fixed('a').fixed(285).high(0, 5).fixed(256).align().low(0, 32), 259,
                "61".repeat(259));
    }

    private static void noSuchDistances() {
        Check.sentence("distances 5 each (0 .. 31; 286, 287, 30, 31 are none)");
        // 3 + 8 + 7 + 5 bits: the last one is the seventh of the third byte, whatever comes behind.
        flate("distance symbol 30", fixed().fixed('a').fixed(257).high(30, 5).low(0, 40), -1 - 4, "61");
        flate("distance symbol 31", fixed().fixed('a').fixed(257).high(31, 5).low(0, 40), -1 - 4, "61");
        flate("distance symbol 29 takes 13 bits more", fixed().fixed('a').fixed(257).high(29, 5).low(0, 40), -1 - 6,
                "61");
    }

    private static void placeOfTheLastBit() {
        Check.sentence("FAULTS of unpacking have a place, the byte of which the last bit was taken");
        // 29 bits before: the way's last bit is the last one of the fourth byte.
        flate("the last bit of a byte", Bits.flate().low(0, 1).low(1, 2).fixed(200).fixed(256).low(0, 1).low(1, 2)
                .fixed(256).low(1, 1).low(3, 2).low(0, 32), -1 - 5, "c8");
        // 30 bits before: the way's last bit is the first one of the fifth byte.
        flate("the first bit of a byte", Bits.flate().low(0, 1).low(1, 2).fixed(256).low(0, 1).low(1, 2).fixed(256)
                .low(0, 1).low(1, 2).fixed(256).low(1, 1).low(3, 2).low(0, 32), -1 - 6, "");
        // 3 + 9 + 7 + 5 bits: 24.
        flate("a distance up to the last bit", fixed().fixed(200).fixed(257).high(1, 5).low(0, 32), -1 - 4, "c8");
        // 3 + 9 + 8 + 7 + 5 bits + 1 more: 33.
        flate("a distance's more bits, the first of a byte", fixed().fixed(200).fixed(1).fixed(257).high(4, 5)
                .low(1, 1).low(0, 32), -1 - 6, "c801");
    }

    private static void bytesEnd() {
        Check.sentence("the number of bytes, when they end");
        byte[] data = Check.text("abracadabra abracadabra aaaaaaaaaaaaaaaaaaaaa bcbcbcbcbcb abracad");
        String whole = Check.hex(data);
        for (int level = 0; level <= 2; level++) {
            byte[] packed = Oracle.flate(data, level);
            int before = 0;
            for (int size = 0; size < packed.length; size++) {
                Run x = Run.with(java.util.Arrays.copyOf(packed, size));
                Check.same("level " + level + " cut to " + size, x.unpack(0), -1 - size);
                String came = x.outHex();
                Check.yes("level " + level + " cut to " + size + ": what came so far", whole.startsWith(came));
                Check.yes("level " + level + " cut to " + size + ": not less", came.length() >= before);
                Check.no("level " + level + " cut to " + size + ": differs", x.differs());
                before = came.length();
            }
            Check.same("level " + level + ": all came before the sum", before, whole.length());
        }
        Check.unpacks("within a code", 4000, 0, Check.fromHex("78014b4c"), -1 - 4, "61");
        Check.unpacks("within the sum", 4000, 0, Check.fromHex("78014b0400006200"), -1 - 8, "61");
        Check.unpacks("before the sum", 4000, 0, Check.fromHex("78014b0400"), -1 - 5, "61");
    }

    private static void bytesBehind() {
        Check.sentence("bytes behind the end are passed");
        byte[] good = Check.fromHex("78014b040000620062");
        for (int more : new int[] {1, 2, 100}) {
            Run x = Run.with(Check.join(good, Check.filled(more, 255)));
            Check.same(more + " bytes more", x.unpack(0), 1);
            Check.no(more + " bytes more: differs", x.differs());
            x.outIs(more + " bytes more", "61");
        }
    }

    private static void bound() {
        Check.sentence("also when it would be longer than the bound: that of the code, or byte, by which");
        byte[] stored = Check.fromHex("7801 01 0300fcff 616263 024d0127");
        Check.unpacks("stored, bound 0", 0, 0, stored, -1 - 7, "");
        Check.unpacks("stored, bound 1", 1, 0, stored, -1 - 8, "61");
        Check.unpacks("stored, bound 2", 2, 0, stored, -1 - 9, "6162");
        Check.unpacks("stored, bound 3", 3, 0, stored, 3, "616263");
        byte[] three = fixed().fixed('a').fixed('b').fixed('c').fixed(256).done(0);
        Check.unpacks("codes, bound 0", 0, 0, three, -1 - 3, "");
        Check.unpacks("codes, bound 1", 1, 0, three, -1 - 4, "61");
        Check.unpacks("codes, bound 2", 2, 0, three, -1 - 5, "6162");
        Check.unpacks("codes, bound 3", 3, 0, three, 3, "616263");
        Check.unpacks("nothing, bound 0", 0, 0, Check.fromHex("7801030000000001"), 0, "");
        Run beyond = Run.with(2, Check.fromHex("7801 01 0300fcff 616263 00000000"));
        beyond.unpack(0);
        Check.no("it did not come to its end", beyond.differs());
        Run just = Run.with(3, Check.fromHex("7801 01 0300fcff 616263 00000000"));
        just.unpack(0);
        Check.yes("it came to its end", just.differs());
    }

    private static void boundOfMatches() {
        Check.sentence("What came so far, up to the bound, is the out");
        // a, then 258 (285) at distance 1: 3 + 8 + 8 + 5 bits, its last bit the last one of the fifth byte.
        byte[] match = fixed().fixed('a').fixed(285).high(0, 5).fixed(256).done(0);
        for (int most : new int[] {1, 2, 128, 257, 258}) {
            Check.unpacks("a match, bound " + most, most, 0, match, -1 - 4, "61".repeat(most));
        }
        Check.unpacks("a match, bound 259", 259, 0, match, 259, "61".repeat(259));
        Block most = new Block().grow(3990).match(10, 1);
        Run x = Run.with(most.done());
        Check.same("4000", x.unpack(0), 4000);
        x.outSums("4000", most.due());
        Block more = new Block().grow(3990).match(10, 2).alone('x');
        int taken = more.bits().size();
        Run y = Run.with(more.done());
        Check.same("4001", y.unpack(0), -1 - (taken - 1) / 8);
        y.outSums("4001", java.util.Arrays.copyOf(more.due(), 4000));
        Block longer = new Block().grow(3990).match(11, 2);
        int longerTaken = longer.bits().size();
        Run z = Run.with(longer.done());
        Check.same("4001 by a match", z.unpack(0), -1 - (longerTaken - 1) / 8);
        z.outSums("4001 by a match", java.util.Arrays.copyOf(longer.due(), 4000));
    }
}
