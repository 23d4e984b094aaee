/** Promise 3 by the dictionary, runs, halves and fives: each sentence with its edges. */
public final class PackOthersTest {
    private static final int DICTIONARY = 1;
    private static final int RUNS = 2;
    private static final int HALVES = 3;
    private static final int FIVES = 4;

    public static void main(String[] args) {
        dictionaryOfNone();
        dictionaryLongest();
        dictionaryOwnEntry();
        dictionaryWidths();
        dictionaryOfMuch();
        runsOfAlike();
        runsOfOthers();
        runsEnd();
        halves();
        fives();
        fivesAlone();
        levelIsOfFlateAlone();
        kinds();
        bound();
        usedObject();
        bytesStay();
        Check.end();
    }

    private static Bits nine(int... codes) {
        Bits stream = Bits.dictionary();
        for (int code : codes) {
            stream.high(code, 9);
        }
        return stream;
    }

    private static void dictionary(String what, String text, int... codes) {
        Check.packs(what, DICTIONARY, 0, Check.text(text), nine(codes).done());
    }

    private static void dictionaryOfNone() {
        Check.sentence("By DICTIONARY: first 256; at the end 257");
        Check.packs("none", DICTIONARY, 0, new byte[0], "804040");
        dictionary("one", "a", 256, 'a', 257);
    }

    private static void dictionaryLongest() {
        Check.sentence("then each time the longest that is a byte or an entry (those that have come");
        Check.packs("the book's example", DICTIONARY, 0, Check.bytes(45, 45, 45, 45, 45, 65, 45, 45, 45, 66),
                "800b6050220c0c8501");
        dictionary("two", "abab", 256, 'a', 'b', 258, 257);
        dictionary("the longest of two", "ababcabc", 256, 'a', 'b', 258, 'c', 260, 257);
        dictionary("one that came a code before", "abcabcab", 256, 'a', 'b', 'c', 258, 260, 'b', 257);
        dictionary("an entry up to the end", "abcdabc", 256, 'a', 'b', 'c', 'd', 258, 'c', 257);
        Check.packs("0 and 255", DICTIONARY, 0, Check.bytes(0, 255, 0, 255, 255),
                nine(256, 0, 255, 258, 255, 257).done());
    }

    private static void dictionaryOwnEntry() {
        Check.sentence("and the one that comes with it)");
        dictionary("a and twice that", "aaa", 256, 'a', 258, 257);
        dictionary("only one more", "aa", 256, 'a', 'a', 257);
        dictionary("longer and longer", "aaaaaa", 256, 'a', 258, 259, 257);
        Check.packs("of 0", DICTIONARY, 0, Check.filled(7, 0), nine(256, 0, 258, 259, 0, 257).done());
    }

    private static void dictionaryWidths() {
        Check.sentence("A code has 9 bits, but 10, 11, 12 when the entry that would come with it is 511, 1023, 2047 or more.");
        // With the n-th code behind 256, but the first, entry 256 + n would come; of 1600 bytes, the most that
        // a predictor makes, that is less than 2047, so that no code ever has 12 bits, and no entry is 4095.
        for (int count : new int[] {252, 253, 254, 255, 256, 400, 764, 765, 766, 767, 768, 800}) {
            byte[] data = withoutPairs(count);
            Bits due = Bits.dictionary().high(256, 9);
            for (int n = 1; n <= count + 1; n++) {
                int entry = Math.max(258, 256 + n);
                int width = entry >= 1023 ? 11 : entry >= 511 ? 10 : 9;
                due.high(n <= count ? data[n - 1] & 255 : 257, width);
            }
            Run x = stepped(data);
            byte[] bytes = due.done();
            Check.same(count + " lone bytes", x.pack(DICTIONARY, 0), bytes.length);
            x.outIs(count + " lone bytes", bytes);
        }
    }

    /** Bytes of which no two stand behind one another twice. */
    private static byte[] withoutPairs(int count) {
        byte[] data = new byte[count];
        for (int i = 0; i < count; i++) {
            int turn = i / 256;
            data[i] = (byte) (i * (2 * turn + 1));
        }
        return data;
    }

    /** An object with bytes that go by steps, given to it by a predictor, as 800 adds are too many calls. */
    private static Run stepped(byte[] data) {
        Run x = Run.with(Oracle.flate(Oracle.predicted(data, 2, 64, 1), 2));
        x.predictor(2, 1, 8, 64);
        Check.same("steps", x.unpack(0), data.length);
        x.predictor(0, 1, 8, 1);
        x.chain(-1);
        return x;
    }

    private static void dictionaryOfMuch() {
        Check.sentence("10, 11, 12 when the entry that would come with it is 511, 1023, 2047 or more");
        // 1600 bytes go from the predictor to the dictionary, by more than 1000 codes.
        byte[] data = withoutPairs(800);
        Run x = stepped(data);
        x.predictor(10, 1, 8, 1);
        byte[] due = Oracle.dictionary(Oracle.predicted(data, 10, 1, 1));
        Check.same("1600", x.pack(DICTIONARY, 0), due.length);
        x.outSums("1600", due);
        Run y = Run.with(Check.filled(800, 0));
        byte[] few = Oracle.dictionary(new byte[800]);
        Check.same("800 of 0", y.pack(DICTIONARY, 0), few.length);
        y.outIs("800 of 0", few);
    }

    private static void runs(String what, String due, byte[]... parts) {
        Check.packs(what, RUNS, 0, Check.join(parts), due);
    }

    private static void runsOfAlike() {
        Check.sentence("By RUNS: a run of 2 .. 128 alike bytes, as long as can be");
        runs("two", "ff0580", Check.filled(2, 5));
        runs("three", "fe0580", Check.filled(3, 5));
        runs("127", "820980", Check.filled(127, 9));
        runs("128", "810980", Check.filled(128, 9));
        runs("129", "8109000980", Check.filled(129, 9));
        runs("130", "8109ff0980", Check.filled(130, 9));
        runs("256", "8109810980", Check.filled(256, 9));
        runs("257", "81098109000980", Check.filled(257, 9));
        runs("two runs", "ff05ff0680", Check.filled(2, 5), Check.filled(2, 6));
        runs("129 and another", "810901090180", Check.filled(129, 9), Check.bytes(1));
        runs("129 and two others", "81090009ff0180", Check.filled(129, 9), Check.bytes(1, 1));
        runs("of 128", "ff8080", Check.bytes(128, 128));
    }

    private static void runsOfOthers() {
        Check.sentence("others, 1 .. 128, up to the next two alike ones");
        runs("one", "000580", Check.bytes(5));
        runs("one before two", "0001ff0280", Check.bytes(1, 2, 2));
        runs("two before two", "010102ff03000480", Check.bytes(1, 2, 3, 3, 4));
        runs("up to the end", "0201020380", Check.bytes(1, 2, 3));
        runs("127", "7e" + Check.hex(Check.range(0, 126)) + "80", Check.range(0, 126));
        runs("128", "7f" + Check.hex(Check.range(0, 127)) + "80", Check.range(0, 127));
        runs("129", "7f" + Check.hex(Check.range(0, 127)) + "008080", Check.range(0, 128));
        runs("128 before two", "7f" + Check.hex(Check.range(0, 127)) + "ff0580", Check.range(0, 127), Check.filled(2, 5));
        runs("127 before two", "7e" + Check.hex(Check.range(0, 126)) + "ff0580", Check.range(0, 126), Check.filled(2, 5));
        runs("129 before two", "7f" + Check.hex(Check.range(0, 127)) + "0080ff0580", Check.range(0, 128),
                Check.filled(2, 5));
        runs("256", "7f" + Check.hex(Check.range(0, 127)) + "7f" + Check.hex(Check.range(128, 255)) + "80",
                Check.range(0, 255));
    }

    private static void runsEnd() {
        Check.sentence("By RUNS: .. ; 128");
        runs("none", "80", new byte[0]);
        Run x = Run.with(Check.filled(800, 3));
        Check.same("800 alike", x.pack(RUNS, 0), 15);
        x.outIs("800 alike", "8103".repeat(6) + "e103" + "80");
    }

    private static void halves() {
        Check.sentence("HALVES with A .. F");
        Check.packs("none", HALVES, 0, new byte[0], Check.text(">"));
        Check.packs("some", HALVES, 0, Check.bytes(0, 9, 10, 15, 16, 159, 160, 171, 205, 239, 255),
                Check.text("00090A0F109FA0ABCDEFFF>"));
        Run x = Run.with(Check.range(0, 255));
        Check.same("all", x.pack(HALVES, 0), 513);
        x.outSums("all", Check.text(Check.hex(Check.range(0, 255)).toUpperCase() + ">"));
    }

    private static void fives() {
        Check.sentence("FIVES with z");
        Check.packs("none", FIVES, 0, new byte[0], Check.text("~>"));
        Check.packs("four", FIVES, 0, Check.text("Man "), Check.text("9jqo^~>"));
        Check.packs("four 0", FIVES, 0, Check.filled(4, 0), Check.text("z~>"));
        Check.packs("eight 0", FIVES, 0, Check.filled(8, 0), Check.text("zz~>"));
        Check.packs("0 but for the last", FIVES, 0, Check.bytes(0, 0, 0, 1), Check.text("!!!!\"~>"));
        Check.packs("0 but for the first", FIVES, 0, Check.bytes(1, 0, 0, 0), Check.text("!<<*\"~>"));
        Check.packs("four 0 that are no four", FIVES, 0, Check.bytes(1, 0, 0, 0, 0, 0, 0, 1), Check.text("!<<*\"!!!!\"~>"));
        Check.packs("2^32 - 1", FIVES, 0, Check.filled(4, 255), Check.text("s8W-!~>"));
        Check.packs("2^31", FIVES, 0, Check.bytes(128, 0, 0, 0), Check.text("J,fQL~>"));
    }

    private static void fivesAlone() {
        Check.sentence("of n signs alone before it (2 .. 4), filled up with 117, n - 1 bytes");
        Check.packs("one", FIVES, 0, Check.text("M"), Check.text("9`~>"));
        Check.packs("two", FIVES, 0, Check.text("Ma"), Check.text("9jn~>"));
        Check.packs("three", FIVES, 0, Check.text("Man"), Check.text("9jqo~>"));
        Check.packs("one 0, no z", FIVES, 0, Check.filled(1, 0), Check.text("!!~>"));
        Check.packs("three 0, no z", FIVES, 0, Check.filled(3, 0), Check.text("!!!!~>"));
        Check.packs("seven 0", FIVES, 0, Check.filled(7, 0), Check.text("z!!!!~>"));
        Check.packs("one 255", FIVES, 0, Check.filled(1, 255), Check.text("rr~>"));
        Check.packs("three, filled up with 0", FIVES, 0, Check.bytes(0, 0, 84), Check.text("!!#s~>"));
    }

    private static void levelIsOfFlateAlone() {
        Check.sentence("level, 0 .. 3, of FLATE alone");
        for (int kind = DICTIONARY; kind <= FIVES; kind++) {
            Run x = Run.with(Check.text("level"));
            int size = x.pack(kind, 0);
            String due = x.outHex();
            for (int level : new int[] {Integer.MIN_VALUE, -1, 1, 3, 4, Integer.MAX_VALUE}) {
                Check.same("kind " + kind + " level " + level, x.pack(kind, level), size);
                x.outIs("kind " + kind + " level " + level, due);
            }
        }
    }

    private static void kinds() {
        Check.sentence("packed or unpacked by a KIND: 0 FLATE, 1 DICTIONARY, 2 RUNS, 3 HALVES, 4 FIVES; IllegalArgumentException");
        Run x = Run.with(Check.text("a"));
        int[] sizes = {9, 4, 3, 3, 4};
        for (int kind = 0; kind <= 4; kind++) {
            Check.same("kind " + kind, x.pack(kind, 1), sizes[kind]);
        }
        for (int kind : new int[] {Integer.MIN_VALUE, -2, -1, 5, 6, 256, Integer.MAX_VALUE}) {
            Check.refused("pack " + kind, IllegalArgumentException.class, () -> x.pack(kind, 0));
            Check.refused("unpack " + kind, IllegalArgumentException.class, () -> x.unpack(kind));
        }
    }

    private static void bound() {
        Check.sentence("UnsupportedOperationException when it would be longer than the bound");
        int[] sizes = {0, 8, 7, 11, 9};
        byte[] data = Check.text("bound");
        for (int kind = DICTIONARY; kind <= FIVES; kind++) {
            int asked = kind;
            Check.same("kind " + kind + ", just the bound", Run.with(sizes[kind], data).pack(kind, 0), sizes[kind]);
            Run x = Run.with(sizes[kind] - 1, data);
            Check.refused("kind " + kind + ", one longer", UnsupportedOperationException.class, () -> x.pack(asked, 0));
            Check.same("kind " + kind + ", no out", x.outSize(), 0);
            Run none = new Run(0);
            Check.refused("kind " + kind + ", bound 0", UnsupportedOperationException.class, () -> none.pack(asked, 0));
        }
    }

    /** What stood in the rows of an object before does not show. */
    private static void usedObject() {
        Check.sentence("The bytes are PACKED by a kind");
        Run x = Run.with(Check.bytes(1, 2, 2, 255, 255, 255, 255, 255));
        for (int round = 0; round < 2; round++) {
            Check.same("halves", x.pack(HALVES, 0), 17);
            Check.same("dictionary", x.pack(DICTIONARY, 0), 9);
            x.outIs("dictionary", nine(256, 1, 2, 2, 255, 261, 261, 257).done());
        }
        Run y = Run.with(Check.bytes(1, 1, 2, 128));
        y.unpack(RUNS);
        y.chain(-1);
        y.pack(FIVES, 0);
        y.outIs("two, filled up with 0", Check.text("!<N~>"));
        Check.same("1, 2, where a 2 stood behind", y.pack(RUNS, 0), 4);
        y.outIs("1, 2, where a 2 stood behind", "01010280");
    }

    private static void bytesStay() {
        Check.sentence("The bytes are PACKED by a kind and stay");
        Run x = Run.with(Check.text("stay"));
        for (int kind = 0; kind <= 4; kind++) {
            x.pack(kind, 2);
            Check.same("behind kind " + kind, x.pack(HALVES, 0), 9);
            x.outIs("behind kind " + kind, Check.text("73746179>"));
        }
    }
}
