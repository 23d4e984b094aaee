import java.util.Arrays;

/** Promise 4 by the dictionary, runs, halves and fives: each sentence with its edges. */
public final class UnpackOthersTest {
    private static final int DICTIONARY = 1;
    private static final int RUNS = 2;
    private static final int HALVES = 3;
    private static final int FIVES = 4;

    public static void main(String[] args) {
        dictionaryCodes();
        dictionaryBeginsAnew();
        dictionaryEnds();
        dictionaryFirstCode();
        dictionaryOwnEntry();
        dictionaryNoEntry();
        dictionaryWidths();
        dictionaryBound();
        dictionaryPlaces();
        runsOfOthers();
        runsOfAlike();
        runsEnd();
        runsBound();
        halvesSigns();
        halvesWrong();
        halvesBlanks();
        halvesEnd();
        halvesBound();
        fivesSigns();
        fivesWrong();
        fivesZ();
        fivesBlanks();
        fivesEnd();
        fivesBehindTheTilde();
        fivesAlone();
        fivesTooGreat();
        fivesBound();
        cutEverywhere();
        bytesStay();
        Check.end();
    }

    private static void dictionary(String what, Bits stream, int answer, String out) {
        Check.unpacks(what, 4000, DICTIONARY, stream.done(), answer, out);
    }

    private static Bits nine(int... codes) {
        Bits stream = Bits.dictionary();
        for (int code : codes) {
            stream.high(code, 9);
        }
        return stream;
    }

    private static void dictionaryCodes() {
        Check.sentence("codes from the highest bit on: 0 .. 255 are bytes, 256 begins anew, 257 ends, 258 on are entries");
        Check.unpacks("the book's example", 4000, DICTIONARY, Check.fromHex("800b6050220c0c8501"), 10,
                "2d2d2d2d2d412d2d2d42");
        dictionary("0, 255", nine(256, 0, 255, 257), 2, "00ff");
        dictionary("258 and 259", nine('a', 'b', 'c', 258, 259, 257), 7, "616263" + "6162" + "6263");
        dictionary("entries of entries", nine('a', 'b', 258, 260, 261, 257), 11,
                "61" + "62" + "6162" + "616261" + "61626161");
    }

    private static void dictionaryBeginsAnew() {
        Check.sentence("256 begins anew");
        dictionary("entries are gone", nine('a', 'b', 256, 'c', 'd', 258, 257), 6, "616263646364");
        dictionary("twice", nine(256, 256, 'b', 257), 1, "62");
        dictionary("before the end", nine('a', 256, 257), 1, "61");
        Bits all = Bits.dictionary();
        for (int i = 0; i < 711; i++) {
            all.high(256, 9);
        }
        byte[] bytes = all.done();
        Check.same("711 codes are 800 bytes", bytes.length, 800);
        Check.unpacks("nothing else", 4000, DICTIONARY, bytes, -1 - 800, "");
        Bits wide = Bits.dictionary();
        for (int n = 1; n <= 260; n++) {
            wide.high(n & 255, n >= 255 ? 10 : 9);
        }
        StringBuilder due = new StringBuilder();
        for (int n = 1; n <= 260; n++) {
            due.append(String.format("%02x", n & 255));
        }
        dictionary("nine bits again", wide.high(256, 10).high('A', 9).high('B', 9).high(258, 9).high(257, 9), 264,
                due + "4142" + "4142");
    }

    private static void dictionaryEnds() {
        Check.sentence("257 ends; bytes behind the end are passed");
        dictionary("as the first", nine(257), 0, "");
        dictionary("behind 256", nine(256, 257), 0, "");
        dictionary("bytes behind it", nine('a', 257, 'c', 511, 300), 1, "61");
        Check.unpacks("no bytes", 4000, DICTIONARY, new byte[0], -1, "");
        dictionary("none", nine('a', 'b'), -1 - 3, "6162");
        Check.unpacks("a code that is cut", 4000, DICTIONARY, Check.bytes(0x30), -1 - 1, "");
        Check.unpacks("257 without its last bit", 4000, DICTIONARY, Check.bytes(0x80), -1 - 1, "");
    }

    private static void dictionaryFirstCode() {
        Check.sentence("With each code but 256, 257 and the first one (at all, or behind 256) an entry comes");
        dictionary("with the second one", nine('a', 'b', 258, 257), 4, "61626162");
        dictionary("none with the first at all", nine('a', 259, 257), -1 - 2, "61");
        dictionary("none with the first behind 256", nine(256, 'a', 259, 257), -1 - 3, "61");
        dictionary("none with the first behind a later 256", nine('a', 'b', 256, 'c', 259, 257), -1 - 5, "616263");
        // 260 is c and the first of ab, 261 is ab and d.
        dictionary("what the code before told, and the first byte of this one",
                nine('a', 'b', 'c', 258, 'd', 261, 260, 257), 11, "616263" + "6162" + "64" + "616264" + "6361");
    }

    private static void dictionaryOwnEntry() {
        Check.sentence("a code may tell the entry that comes with it");
        dictionary("258 as the second", nine('a', 258, 257), 3, "616161");
        dictionary("258 behind 256 and a byte", nine(256, 'a', 258, 259, 260, 257), 1 + 2 + 3 + 4, "61".repeat(10));
        dictionary("later", nine('a', 'b', 259, 260, 257), 2 + 2 + 3, "6162" + "6262" + "626262");
    }

    private static void dictionaryNoEntry() {
        Check.sentence("any other one above 257 that is no entry is a fault");
        dictionary("258 as the first at all", nine(258, 257), -1 - 1, "");
        dictionary("258 as the first behind 256", nine(256, 258, 257), -1 - 2, "");
        dictionary("258 behind a later 256", nine('a', 'b', 256, 258, 257), -1 - 4, "6162");
        dictionary("one beyond its own", nine('a', 259, 257), -1 - 2, "61");
        dictionary("one beyond its own, later", nine('a', 'b', 260, 257), -1 - 3, "6162");
        dictionary("511", nine('a', 'b', 511, 257), -1 - 3, "6162");
    }

    private static void dictionaryWidths() {
        Check.sentence("A code has 9 bits, but 10, 11, 12 when the entry that would come with it is 511, 1023, 2047 or more.");
        // With the second code entry 258 comes, with the 255th one 511.
        for (int codes : new int[] {252, 253, 254, 255, 256, 257, 330}) {
            Bits stream = Bits.dictionary();
            byte[] due = new byte[codes];
            for (int n = 1; n <= codes; n++) {
                stream.high(n & 255, n >= 255 ? 10 : 9);
                due[n - 1] = (byte) n;
            }
            byte[] bytes = stream.high(257, codes + 1 >= 255 ? 10 : 9).done();
            Run x = Run.with(bytes);
            Check.same(codes + " codes", x.unpack(DICTIONARY), codes);
            x.outSums(codes + " codes", due);
        }
        Bits entry = Bits.dictionary();
        for (int n = 1; n <= 255; n++) {
            entry.high(n & 255, n >= 255 ? 10 : 9);
        }
        Run own = Run.with(entry.high(512, 10).high(257, 10).done());
        Check.same("512 comes with its code", own.unpack(DICTIONARY), 257);
        Check.same("512: the byte before twice", own.cell(1) * 256 + own.cell(2), 255 * 256 + 255);
        Bits last = Bits.dictionary();
        for (int n = 1; n <= 255; n++) {
            last.high(n & 255, n >= 255 ? 10 : 9);
        }
        Run known = Run.with(last.high(511, 10).high(257, 10).done());
        Check.same("511 is known then", known.unpack(DICTIONARY), 257);
        Check.same("511: 254 and 255", known.cell(2) * 256 + known.cell(1), 254 * 256 + 255);
    }

    private static void dictionaryBound() {
        Check.sentence("also when it would be longer than the bound: that of the code, or byte, by which");
        byte[] three = nine('a', 258, 257).done();
        Check.unpacks("bound 0", 0, DICTIONARY, three, -1 - 1, "");
        Check.unpacks("bound 1", 1, DICTIONARY, three, -1 - 2, "61");
        Check.unpacks("bound 2, within the entry", 2, DICTIONARY, three, -1 - 2, "6161");
        Check.unpacks("bound 3", 3, DICTIONARY, three, 3, "616161");
        Check.unpacks("the end, bound 0", 0, DICTIONARY, nine(256, 257).done(), 0, "");
        // 1 + 2 + .. + 88 bytes are 3916, and 89 more are too many.
        Bits grown = nine(0);
        for (int code = 258; code < 258 + 88; code++) {
            grown.high(code, 9);
        }
        byte[] bytes = grown.high(257, 9).done();
        Run x = Run.with(bytes);
        Check.same("4005", x.unpack(DICTIONARY), -1 - (89 * 9 - 1) / 8);
        x.outSums("4005", new byte[4000]);
    }

    private static void dictionaryPlaces() {
        Check.sentence("FAULTS of unpacking have a place, the byte of which the last bit was taken (of the dictionary, and FLATE)");
        for (int before = 0; before < 17; before++) {
            Bits stream = Bits.dictionary();
            for (int i = 0; i < before; i++) {
                stream.high('a' + i, 9);
            }
            stream.high(400, 9);
            byte[] bytes = stream.high(0, 20).done();
            Run x = Run.with(bytes);
            Check.same(before + " codes before", x.unpack(DICTIONARY), -1 - ((before + 1) * 9 - 1) / 8);
            Check.same(before + " codes before, the out", x.outSize(), before);
        }
    }

    private static void runsOfOthers() {
        Check.sentence("a byte n below 128: n + 1 bytes follow");
        Check.unpacks("0", 4000, RUNS, Check.bytes(0, 5, 128), 1, "05");
        Check.unpacks("2", 4000, RUNS, Check.bytes(2, 128, 0, 255, 128), 3, "8000ff");
        Check.unpacks("127", 4000, RUNS, Check.join(Check.bytes(127), Check.range(1, 128), Check.bytes(128)), 128,
                Check.hex(Check.range(1, 128)));
        Check.unpacks("126", 4000, RUNS, Check.join(Check.bytes(126), Check.range(1, 127), Check.bytes(128)), 127,
                Check.hex(Check.range(1, 127)));
        Check.unpacks("cut", 4000, RUNS, Check.bytes(3, 7, 8), -1 - 3, "0708");
        Check.unpacks("cut before the first", 4000, RUNS, Check.bytes(3), -1 - 1, "");
    }

    private static void runsOfAlike() {
        Check.sentence("above 128: the next one 257 - n times");
        Check.unpacks("129", 4000, RUNS, Check.bytes(129, 7, 128), 128, "07".repeat(128));
        Check.unpacks("130", 4000, RUNS, Check.bytes(130, 7, 128), 127, "07".repeat(127));
        Check.unpacks("254", 4000, RUNS, Check.bytes(254, 128, 128), 3, "808080");
        Check.unpacks("255", 4000, RUNS, Check.bytes(255, 7, 128), 2, "0707");
        Check.unpacks("one of each", 4000, RUNS, Check.bytes(255, 7, 0, 8, 255, 9, 128), 5, "0707080909");
        Check.unpacks("cut", 4000, RUNS, Check.bytes(0, 7, 200), -1 - 3, "07");
    }

    private static void runsEnd() {
        Check.sentence("128 ends; bytes behind the end are passed");
        Check.unpacks("at once", 4000, RUNS, Check.bytes(128), 0, "");
        Check.unpacks("bytes behind it", 4000, RUNS, Check.bytes(0, 1, 128, 0, 2, 128), 1, "01");
        Check.unpacks("no bytes", 4000, RUNS, new byte[0], -1, "");
        Check.unpacks("none", 4000, RUNS, Check.bytes(0, 7), -1 - 2, "07");
        Check.unpacks("none behind a run", 4000, RUNS, Check.bytes(255, 7), -1 - 2, "0707");
        byte[] full = new byte[800];
        for (int i = 0; i < 800; i += 2) {
            full[i + 1] = 7;
        }
        Run x = Run.with(full);
        Check.same("400 of one each, and none", x.unpack(RUNS), -1 - 800);
        x.outSums("400 of one each, and none", Check.filled(400, 7));
    }

    private static void runsBound() {
        Check.sentence("also when it would be longer than the bound: that of the code, or byte, by which");
        byte[] others = Check.bytes(2, 1, 2, 3, 128);
        Check.unpacks("others, bound 0", 0, RUNS, others, -1 - 1, "");
        Check.unpacks("others, bound 1", 1, RUNS, others, -1 - 2, "01");
        Check.unpacks("others, bound 2", 2, RUNS, others, -1 - 3, "0102");
        Check.unpacks("others, bound 3", 3, RUNS, others, 3, "010203");
        byte[] alike = Check.bytes(254, 9, 128);
        Check.unpacks("a run, bound 0", 0, RUNS, alike, -1 - 1, "");
        Check.unpacks("a run, bound 2", 2, RUNS, alike, -1 - 1, "0909");
        Check.unpacks("a run, bound 3", 3, RUNS, alike, 3, "090909");
        Check.unpacks("a run behind others", 3, RUNS, Check.bytes(0, 1, 254, 9, 128), -1 - 3, "010909");
        Check.unpacks("the end, bound 0", 0, RUNS, Check.bytes(128), 0, "");
    }

    private static void halves(String what, String signs, int answer, String out) {
        Check.unpacks(what, 4000, HALVES, Check.text(signs), answer, out);
    }

    private static void halvesSigns() {
        Check.sentence("two signs 0 .. 9, A .. F (a .. f) for a byte");
        halves("all of them", "0123456789ABCDEFabcdef>", 11, "0123456789abcdefabcdef");
        halves("mixed", "aAfF9f0A>", 4, "aaff9f0a");
        halves("the first one is higher", "1001>", 2, "1001");
    }

    private static void halvesWrong() {
        Check.sentence("FAULTS have a place, the byte that is wrong");
        for (char sign : new char[] {33, '/', ':', '=', '?', '@', 'G', 'Z', '`', 'g', '~', 127, 128, 160, 176, 225, 255}) {
            halves((int) sign + " as the first", "41" + sign + "1>", -1 - 2, "41");
            halves((int) sign + " as the second", "414" + sign + ">", -1 - 3, "41");
        }
    }

    private static void halvesBlanks() {
        Check.sentence("bytes up to 32 are passed");
        StringBuilder all = new StringBuilder("4");
        for (char blank = 0; blank <= 32; blank++) {
            all.append(blank);
        }
        halves("all of them, between two signs", all + "1" + all + "2>", 2, "4142");
        halves("before the first", " \n41>", 1, "41");
        halves("only such", " ".repeat(300), -1 - 300, "");
        halves("800 of them", " ".repeat(800), -1 - 800, "");
        halves("799 and the end", " ".repeat(799) + ">", 0, "");
        halves("before the end", "41 \t>", 1, "41");
    }

    private static void halvesEnd() {
        Check.sentence("> ends; one alone before it stands for 16 times itself; bytes behind the end are passed");
        halves("at once", ">", 0, "");
        halves("bytes behind it", "41>42>G", 1, "41");
        halves("one alone", "417>", 2, "4170");
        halves("F alone", "F>", 1, "f0");
        halves("0 alone", "0>", 1, "00");
        halves("one alone, then blanks", "4 \n>", 1, "40");
        halves("no bytes", "", -1, "");
        halves("none", "4142", -1 - 4, "4142");
        halves("none, one alone", "41424", -1 - 5, "4142");
    }

    private static void halvesBound() {
        Check.sentence("also when it would be longer than the bound: that of the code, or byte, by which");
        byte[] two = Check.text("4142>");
        Check.unpacks("bound 0", 0, HALVES, two, -1 - 1, "");
        Check.unpacks("bound 1", 1, HALVES, two, -1 - 3, "41");
        Check.unpacks("bound 2", 2, HALVES, two, 2, "4142");
        Check.unpacks("one alone", 1, HALVES, Check.text("414 >"), -1 - 4, "41");
        Check.unpacks("one alone, bound 0", 0, HALVES, Check.text("0>"), -1 - 1, "");
        Check.unpacks("the end, bound 0", 0, HALVES, Check.text(" >"), 0, "");
    }

    private static void fives(String what, String signs, int answer, String out) {
        Check.unpacks(what, 4000, FIVES, Check.text(signs), answer, out);
    }

    private static void fivesSigns() {
        Check.sentence("of five signs 33 .. 117 (each less 33, to the base 85) four bytes, highest first");
        fives("Man", "9jqo^~>", 4, "4d616e20");
        fives("0", "!!!!!~>", 4, "00000000");
        fives("1", "!!!!\"~>", 4, "00000001");
        fives("84", "!!!!u~>", 4, "00000054");
        fives("85", "!!!\"!~>", 4, "00000055");
        fives("> is a sign, too", "!!!!>~>", 4, "0000001d");
        fives("two of them", "9jqo^!!!!u~>", 8, "4d616e2000000054");
    }

    private static void fivesWrong() {
        Check.sentence("FAULTS have a place, the byte that is wrong");
        for (char sign : new char[] {118, 119, 121, 123, 125, 127, 128, 160, 161, 245, 255}) {
            fives((int) sign + " as the first", "9jqo^" + sign + "~>", -1 - 5, "4d616e20");
            fives((int) sign + " as the third", "9j" + sign + "!!~>", -1 - 2, "");
            fives((int) sign + " as the fifth", "9jqo" + sign + "~>", -1 - 4, "");
        }
    }

    private static void fivesZ() {
        Check.sentence("z alone for four 0; z within five at it");
        fives("alone", "z~>", 4, "00000000");
        fives("before and behind", "z9jqo^z~>", 12, "000000004d616e2000000000");
        for (int before = 1; before <= 4; before++) {
            fives("behind " + before, "!!!!!" + "9jqo".substring(0, before) + "z~>", -1 - 5 - before, "00000000");
        }
        fives("Z is a sign", "!!!!Z~>", 4, "00000039");
    }

    private static void fivesBlanks() {
        Check.sentence("bytes up to 32 are passed");
        StringBuilder all = new StringBuilder();
        for (char blank = 0; blank <= 32; blank++) {
            all.append(blank);
        }
        fives("all of them", "9" + all + "jqo^" + all + "z" + all + "~>", 8, "4d616e2000000000");
        fives("33 is none", "!!!!!~>", 4, "00000000");
        fives("only such", " ".repeat(300), -1 - 300, "");
        fives("800 of them", " ".repeat(800), -1 - 800, "");
        fives("798 and the end", " ".repeat(798) + "~>", 0, "");
        fives("799 and a half of the end", " ".repeat(799) + "~", -1 - 800, "");
    }

    private static void fivesEnd() {
        Check.sentence("~ > ends; bytes behind the end are passed");
        fives("at once", "~>", 0, "");
        fives("bytes behind it", "9jqo^~>z~>v", 4, "4d616e20");
        fives("no bytes", "", -1, "");
        fives("none", "9jqo^", -1 - 5, "4d616e20");
        fives("none, some alone", "9jqo^9jqo", -1 - 9, "4d616e20");
    }

    private static void fivesBehindTheTilde() {
        Check.sentence("another byte behind ~, a blank too, is a fault at it");
        for (char other : new char[] {0, 10, 32, 33, '=', '?', 'z', '~', 190, 255}) {
            fives((int) other + " behind it", "9jqo^~" + other + ">", -1 - 6, "4d616e20");
        }
        fives("nothing behind it", "9jqo^~", -1 - 6, "4d616e20");
        fives("nothing behind it, at once", "~", -1 - 1, "");
        fives("a blank behind three", "9jqo~ >", -1 - 5, "4d616e");
    }

    private static void fivesAlone() {
        Check.sentence("of n signs alone before it (2 .. 4), filled up with 117, n - 1 bytes; one sign alone before it at the ~");
        fives("four", "9jqo~>", 3, "4d616e");
        fives("three", "9jn~>", 2, "4d61");
        fives("two", "9`~>", 1, "4d");
        fives("two, of what 117 fills up", "!!~>", 1, "00");
        fives("three, of what 117 fills up", "!!!~>", 2, "0000");
        fives("four, of what 117 fills up", "!!!!~>", 3, "000000");
        fives("four, the fifth would count", "!!!$~>", 3, "000001");
        fives("one", "9jqo^9~>", -1 - 6, "4d616e20");
        fives("one, and a blank", "9jqo^9 ~>", -1 - 7, "4d616e20");
        fives("one, and another fault behind", "9jqo^9~x", -1 - 6, "4d616e20");
        fives("one at all", "!~>", -1 - 1, "");
    }

    private static void fivesTooGreat() {
        Check.sentence("more than 2^32 - 1 is a fault, at the fifth sign, or the ~");
        fives("2^32 - 1", "s8W-!~>", 4, "ffffffff");
        fives("2^32", "s8W-\"~>", -1 - 4, "");
        fives("2^32, a blank within", "s8W- \"~>", -1 - 5, "");
        fives("2^32 behind four", "zs8W-\"~>", -1 - 5, "00000000");
        fives("the greatest", "uuuuu~>", -1 - 4, "");
        fives("four alone, 2^32 - 1 - 84 .. ", "s8W,~>", 3, "ffffff");
        fives("four alone, more", "s8W-~>", -1 - 4, "");
        fives("three alone", "s8V~>", 2, "ffff");
        fives("three alone, more", "s8W~>", -1 - 3, "");
        fives("two alone", "s7~>", 1, "ff");
        fives("two alone, more", "s8~>", -1 - 2, "");
        fives("two alone, more, another fault behind", "s8~x", -1 - 2, "");
    }

    private static void fivesBound() {
        Check.sentence("also when it would be longer than the bound: that of the code, or byte, by which");
        byte[] four = Check.text("9jqo^~>");
        for (int most = 0; most < 4; most++) {
            Check.unpacks("bound " + most, most, FIVES, four, -1 - 4, "4d616e".substring(0, 2 * most));
        }
        Check.unpacks("bound 4", 4, FIVES, four, 4, "4d616e20");
        Check.unpacks("z", 5, FIVES, Check.text("9jqo^z~>"), -1 - 5, "4d616e2000");
        Check.unpacks("three alone", 2, FIVES, Check.text("9jqo~>"), -1 - 4, "4d61");
        Check.unpacks("three alone, just the bound", 3, FIVES, Check.text("9jqo~>"), 3, "4d616e");
        Check.unpacks("the end, bound 0", 0, FIVES, Check.text("~>"), 0, "");
    }

    /** Streams of all four kinds, cut at each place: what came so far, and a fault at their end. */
    private static void cutEverywhere() {
        Check.sentence("Streams that are cut or wrong give what came so far.");
        byte[] data = Check.text("aaaaabcabcabcabc\0\0\0\0\0zz");
        for (int kind = 1; kind <= 4; kind++) {
            Run packer = Run.with(data);
            packer.pack(kind, 0);
            byte[] packed = packer.outBytes();
            int before = 0;
            for (int size = 0; size < packed.length; size++) {
                Run x = Run.with(Arrays.copyOf(packed, size));
                int answer = x.unpack(kind);
                String came = x.outHex();
                // A byte that is not whole is all that the dictionary has behind its end.
                boolean whole = kind == DICTIONARY && answer >= 0;
                Check.same("kind " + kind + " cut to " + size, answer, whole ? data.length : -1 - size);
                Check.yes("kind " + kind + " cut to " + size + ": it begins alike", Check.hex(data).startsWith(came));
                Check.yes("kind " + kind + " cut to " + size + ": not less", came.length() >= before);
                before = came.length();
            }
        }
    }

    private static void bytesStay() {
        Check.sentence("The bytes are UNPACKED by a kind and stay");
        Run x = Run.with(Check.text("4142>"));
        for (int kind = 0; kind <= 4; kind++) {
            x.unpack(kind);
            Check.same("behind kind " + kind, x.unpack(HALVES), 2);
            x.outIs("behind kind " + kind, "4142");
        }
    }
}
