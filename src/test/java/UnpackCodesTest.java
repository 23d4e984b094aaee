/** Promise 4 by FLATE: codes that are told, over-full ones, and ones with holes. */
public final class UnpackCodesTest {
    public static void main(String[] args) {
        canonical();
        longest();
        howMany();
        fewTellers();
        orderOfTellers();
        tellersOfSevenBits();
        repeats();
        repeatsIntoDistances();
        repeatsZeros();
        fewZeros();
        manyZeros();
        repeatAsTheFirst();
        moreThanThereAre();
        overFullTellers();
        overFullSymbols();
        overFullDistances();
        holesOfTellers();
        holesOfSymbols();
        holesOfDistances();
        oneTellerAlone();
        oneSymbolAlone();
        oneDistanceAlone();
        noDistances();
        asSoonAsAllAreTold();
        endMayBeNone();
        noSuchSymbols();
        toldTwice();
        fewerTellersThanBefore();
        manyShortCodes();
        cutHeads();
        Check.end();
    }

    /** A fault at the last bit written so far, whatever stands behind it. */
    private static void fault(String what, Bits stream, String out) {
        int answer = -1 - (stream.size() - 1) / 8;
        Check.unpacks(what, 4000, 0, stream.done(), answer, out);
        byte[] begun = stream.done();
        Check.unpacks(what + ", zeros behind", 4000, 0, Check.join(begun, Check.filled(9, 0)), answer, out);
        Check.unpacks(what + ", ones behind", 4000, 0, Check.join(begun, Check.filled(9, 255)), answer, out);
    }

    private static void good(String what, Bits stream, String out) {
        Check.unpacks(what, 4000, 0, stream.align().low(0, 32).done(), out.length() / 2, out);
    }

    /** No fault in the codes: what is behind them comes, until the bytes end. */
    private static void endless(String what, Bits stream, String out) {
        byte[] all = stream.done();
        Check.unpacks(what, 4000, 0, all, -1 - all.length, out);
    }

    private static void canonical() {
        Check.sentence("CODES by lengths: shorter ones first, of one length by symbols; each is the one before and 1, "
                + "doubled for each bit more.");
        // 3 has 0, 1 has 10, 256 has 110, 0 has 1110, 2 has 1111.
        Told told = Told.only(0, 0, 0, 3, 1, 3, 2, 3, 3, 3, 4, 2, 18, 2);
        told.tell(4, 2, 4, 1).zeros(252).tell(3, 0);
        good("1 2 3 4 4", told.bits().raw("0 10 1110 1111 0 1110 110"), "030100020300");
    }

    private static void longest() {
        Check.sentence("CODES by lengths 1 .. 15 (0: none)");
        Bits stream = lengthsUpTo15(15, 15);
        StringBuilder due = new StringBuilder();
        for (int symbol = 0; symbol < 15; symbol++) {
            stream.raw("1".repeat(symbol)).raw("0");
            due.append(String.format("%02x", symbol));
        }
        good("1 .. 15 and 15", stream.raw("1".repeat(15)), due.toString());
    }

    /** Symbols 0 .. last - 1 have 1 .. last bits, 256 has so many; no distance has any. */
    private static Bits lengthsUpTo15(int last, int end) {
        Told told = Told.only(0, 0, 18, 1, 0, 5, 1, 5, 2, 5, 3, 5, 4, 5, 5, 5, 6, 5, 7, 5, 8, 5, 9, 5, 10, 5, 11, 5,
                12, 5, 13, 5, 14, 5, 15, 5);
        for (int length = 1; length <= last; length++) {
            told.tell(length);
        }
        return told.zeros(256 - last).tell(end, 0).bits();
    }

    private static void howMany() {
        Check.sentence("5 bits a, 5 bits b: a + 257 lengths of symbols and b + 1 of distances");
        for (int a : new int[] {0, 1, 15, 16, 28, 29, 30, 31}) {
            for (int b : new int[] {0, 1, 15, 16, 29, 30, 31}) {
                // Symbols 'a' and 256 by two bits, 257 (or 'b') by one; the last distance and another one by one.
                Told told = Told.small(a, b).zeros(97).tell(2).tell(a == 0 ? 1 : 0).zeros(157).tell(2);
                if (a > 0) {
                    told.tell(1).zeros(a - 1);
                }
                told.tell(1);
                if (b > 0) {
                    told.zeros(b - 1).tell(1);
                }
                String what = "a " + a + ", b " + b;
                if (a == 0) {
                    good(what, told.bits().raw("10 0 11"), "6162");
                } else {
                    good(what, told.bits().raw("10 0 0 11"), "61616161");
                }
            }
        }
    }

    private static void fewTellers() {
        Check.sentence("4 bits c; c + 4 lengths, 3 bits each");
        // c is 0: 16, 17, 18, 0 alone, which can tell zeros only.
        Told none = Told.only(0, 0, 0, 1, 18, 1).zeros(258);
        fault("four: no symbol has a code", none.bits(), "");
        // c is 1: 256 symbols by eight bits each.
        Told eight = Told.only(0, 0, 16, 2, 0, 2, 8, 1);
        eight.tell(8);
        for (int i = 0; i < 42; i++) {
            eight.tellMore(16, 3);
        }
        eight.tellMore(16, 0).tell(0, 0);
        endless("five: all bytes by eight bits", eight.bits().high(0, 8).high(1, 8).high(254, 8).high(255, 8),
                "0001feff");
        Told all = Told.only(0, 0, 18, 1, 0, 3, 1, 3, 15, 2);
        all.zeros(97).tell(1).zeros(158).tell(1).tell(0);
        good("nineteen", all.bits().raw("0 0 1"), "6161");
    }

    /** Thirteen tellers of four bits and six of five, which go round: no two can change places. */
    private static void orderOfTellers() {
        Check.sentence("of codes for 16, 17, 18, 0, 8, 7, 9, 6, 10, 5, 11, 4, 12, 3, 13, 2, 14, 1, 15");
        for (int turn = 0; turn < 19; turn++) {
            int[] pairs = new int[38];
            for (int teller = 0; teller < 19; teller++) {
                pairs[2 * teller] = teller;
                pairs[2 * teller + 1] = (teller + 19 - turn) % 19 < 6 ? 5 : 4;
            }
            Told told = Told.only(0, 0, pairs);
            for (int length = 1; length <= 15; length++) {
                told.tell(length);
            }
            told.tellMore(17, 7).tellMore(18, 127).tell(0).tellMore(18, 81).tell(15).tell(0);
            good("turn " + turn, told.bits().raw("0 10 1111 1111 1111 110").raw("1".repeat(15)), "00010e");
        }
    }

    private static void tellersOfSevenBits() {
        Check.sentence("c + 4 lengths, 3 bits each");
        Told told = Told.only(0, 0, 18, 1, 0, 2, 3, 3, 4, 4, 5, 5, 6, 6, 1, 7, 2, 7);
        told.tell(2, 2).zeros(95).tell(2).zeros(158).tell(2, 0);
        good("1 .. 7 and 7", told.bits().raw("00 01 10 11"), "000161");
    }

    private static void repeats() {
        Check.sentence("16 and 2 bits: the one before 3 and so many times");
        for (int more = 0; more <= 3; more++) {
            // Eight symbols by three bits: 4 .. 7 of them by 16, some one by one, and 256.
            Told told = Told.only(0, 0, 0, 2, 3, 2, 16, 2, 18, 2);
            int first = 4 + more;
            told.tell(3).tellMore(16, more).zeros(100 - first);
            for (int i = first; i < 7; i++) {
                told.tell(3);
            }
            told.zeros(156 - (7 - first)).tell(3, 0);
            StringBuilder due = new StringBuilder();
            for (int i = 0; i < 7; i++) {
                told.bits().high(i, 3);
                due.append(String.format("%02x", i < first ? i : 100 + i - first));
            }
            good("and " + more, told.bits().raw("111"), due.toString());
        }
    }

    private static void repeatsIntoDistances() {
        Check.sentence("a + 257 lengths of symbols and b + 1 of distances, one behind the other");
        // Symbols 0, 1, 256, 257 have two bits each, and so have, by 16, four distances.
        Told told = Told.only(1, 3, 0, 2, 2, 2, 16, 2, 18, 2);
        told.tell(2, 2).zeros(254).tell(2, 2).tellMore(16, 1);
        good("16 from a symbol to distances", told.bits().raw("00 01 11 01 11 00 10"), "0001" + "000100" + "000000");
        // 137 zeros end in the distances: 97 + 1 + 158 + 1 symbols are before the last ones.
        Told zeros = Told.small(29, 29).zeros(97).tell(1).zeros(158).tell(1).zeros(59);
        good("18 from symbols to distances", zeros.bits().raw("0 0 1"), "6161");
    }

    private static void repeatsZeros() {
        Check.sentence("16 and 2 bits: the one before 3 and so many times");
        Told told = Told.only(0, 0, 0, 2, 1, 2, 16, 2, 18, 2);
        told.zeros(92).tell(0).tellMore(16, 1).tell(1).tellMore(18, 127).tellMore(16, 3).zeros(14).tell(1, 0);
        good("zeros, told by 0 and by 18", told.bits().raw("0 0 1"), "6161");
    }

    private static void fewZeros() {
        Check.sentence("17 and 3 bits: 3 and so many zeros");
        for (int more = 0; more <= 7; more++) {
            Told told = Told.only(0, 0, 0, 2, 1, 2, 17, 2, 18, 2);
            told.tellMore(17, more).tell(1).zeros(256 - 4 - more).tell(1, 0);
            good("and " + more, told.bits().raw("0 1"), String.format("%02x", 3 + more));
        }
    }

    private static void manyZeros() {
        Check.sentence("18 and 7: 11 and so many");
        for (int more : new int[] {0, 1, 63, 64, 126, 127}) {
            Told told = Told.small(0, 0);
            told.tellMore(18, more).tell(1).zeros(256 - 12 - more).tell(1, 0);
            good("and " + more, told.bits().raw("0 1"), String.format("%02x", 11 + more));
        }
    }

    private static void repeatAsTheFirst() {
        Check.sentence("a 16 as the first one is a fault");
        fault("16 as the first", Told.only(0, 0, 16, 1, 18, 1).tell(16).bits(), "");
        Told second = Told.only(0, 0, 16, 2, 18, 2, 0, 2, 2, 2);
        second.tell(2).tellMore(16, 0).zeros(252).tell(0, 0);
        second.bits().raw("00 01 10 11");
        endless("16 as the second", second.bits(), "00010203" + "00".repeat(restOf(second.bits()) / 2));
    }

    /** How many bits are left of the byte that a stream has begun. */
    private static int restOf(Bits stream) {
        return (8 - stream.size() % 8) % 8;
    }

    private static void moreThanThereAre() {
        Check.sentence("more than there are, is a fault");
        // 257 symbols and one distance: of 258 lengths 256 are told before.
        Told two = Told.only(0, 0, 16, 2, 17, 2, 18, 2, 0, 2).zeros(256);
        fault("17, three for two", two.tellMore(17, 0).bits(), "");
        Told repeat = Told.only(0, 0, 16, 2, 17, 2, 18, 2, 0, 2).zeros(256);
        fault("16, three for two", repeat.tellMore(16, 0).bits(), "");
        Told many = Told.only(0, 0, 16, 2, 17, 2, 18, 2, 0, 2).zeros(248);
        fault("18, eleven for ten", many.tellMore(18, 0).bits(), "");
        Told most = Told.only(0, 0, 16, 2, 17, 2, 18, 2, 0, 2).zeros(248);
        fault("18, 138 for ten", most.tellMore(18, 127).bits(), "");
        Told last = Told.small(0, 0).zeros(97).tell(1).zeros(158).tell(1);
        fault("18 for one, behind good symbols", last.tellMore(18, 0).bits(), "");
        // Just as many as there are.
        Told just17 = Told.only(0, 2, 0, 2, 1, 2, 17, 2, 18, 2).zeros(97).tell(1).zeros(158).tell(1).tellMore(17, 0);
        good("17, just as many", just17.bits().raw("0 1"), "61");
        Told just18 = Told.small(0, 10).zeros(97).tell(1).zeros(158).tell(1).tellMore(18, 0);
        good("18, just as many", just18.bits().raw("0 1"), "61");
        Told just16 = Told.only(0, 3, 0, 2, 2, 2, 16, 2, 18, 2).tell(2, 2, 2).zeros(253).tell(2).tellMore(16, 1);
        good("16, just as many", just16.bits().raw("00 01 10 11"), "000102");
    }

    private static void overFullTellers() {
        Check.sentence("They are OVER-FULL, if there are not so many codes: a fault as soon as all lengths are told");
        fault("three of one bit", Told.only(0, 0, 16, 1, 17, 1, 18, 1).bits(), "");
        fault("1, 1 and 7", Told.only(0, 0, 0, 1, 18, 1, 15, 7).bits(), "");
        fault("nineteen of four bits", Told.only(0, 0, 0, 4, 1, 4, 2, 4, 3, 4, 4, 4, 5, 4, 6, 4, 7, 4, 8, 4, 9, 4, 10, 4,
                11, 4, 12, 4, 13, 4, 14, 4, 15, 4, 16, 4, 17, 4, 18, 4).bits(), "");
    }

    private static void overFullSymbols() {
        Check.sentence("They are OVER-FULL, if there are not so many codes");
        fault("three of one bit", Told.small(0, 0).zeros(97).tell(1, 1).zeros(157).tell(1, 0).bits(), "");
        fault("1, 2, 2 and 2", Told.small(0, 0).zeros(97).tell(1, 2, 2).zeros(156).tell(2, 0).bits(), "");
        fault("1 .. 15, 15 and 15", overFullByTheLeast(), "");
        fault("1 .. 14, 13", lengthsUpTo15(14, 13), "");
    }

    private static Bits overFullByTheLeast() {
        Told told = Told.only(0, 0, 18, 1, 0, 5, 1, 5, 2, 5, 3, 5, 4, 5, 5, 5, 6, 5, 7, 5, 8, 5, 9, 5, 10, 5, 11, 5,
                12, 5, 13, 5, 14, 5, 15, 5);
        for (int length = 1; length <= 15; length++) {
            told.tell(length);
        }
        return told.tell(15).zeros(240).tell(15, 0).bits();
    }

    private static void overFullDistances() {
        Check.sentence("They are OVER-FULL, if there are not so many codes");
        fault("three of one bit", Told.small(0, 2).zeros(97).tell(1).zeros(158).tell(1).tell(1, 1, 1).bits(), "");
        fault("1, 2, 2 and 2", Told.small(0, 3).zeros(97).tell(1).zeros(158).tell(1).tell(1, 2, 2, 2).bits(), "");
        fault("1 and 1 and, as the 32nd, 2", Told.small(0, 31).zeros(97).tell(1).zeros(158).tell(1).tell(1, 1).zeros(29)
                .tell(2).bits(), "");
    }

    private static void holesOfTellers() {
        Check.sentence("they have HOLES, if not all that there are are used");
        fault("no teller", Told.only(0, 0).bits(), "");
        fault("one of two bits", Told.only(0, 0, 18, 2).bits(), "");
        fault("one of seven bits", Told.only(0, 0, 0, 7).bits(), "");
        fault("two of two bits", Told.only(0, 0, 0, 2, 18, 2).bits(), "");
        fault("1 and 2", Told.only(0, 0, 0, 1, 18, 2).bits(), "");
        fault("1 .. 7", Told.only(0, 0, 18, 1, 0, 2, 3, 3, 4, 4, 5, 5, 6, 6, 1, 7).bits(), "");
    }

    private static void holesOfSymbols() {
        Check.sentence("they have HOLES, if not all that there are are used");
        fault("no symbol", Told.small(0, 0).zeros(258).bits(), "");
        fault("no symbol, but distances", Told.small(0, 1).zeros(257).tell(1, 1).bits(), "");
        fault("one of two bits", Told.small(0, 0).zeros(256).tell(2, 0).bits(), "");
        fault("1 and 2", Told.small(0, 0).zeros(97).tell(1).zeros(158).tell(2, 0).bits(), "");
        fault("three of two bits", Told.small(0, 0).zeros(97).tell(2, 2).zeros(157).tell(2, 0).bits(), "");
        fault("1 .. 14 and 15", lengthsUpTo15(14, 15), "");
        fault("1 .. 15", lengthsUpTo15(15, 0), "");
    }

    private static void holesOfDistances() {
        Check.sentence("they have HOLES, if not all that there are are used");
        fault("one of two bits", Told.small(0, 0).zeros(97).tell(1).zeros(158).tell(1).tell(2).bits(), "");
        fault("1 and 2", Told.small(0, 1).zeros(97).tell(1).zeros(158).tell(1).tell(1, 2).bits(), "");
        fault("three of two bits", Told.small(0, 2).zeros(97).tell(1).zeros(158).tell(1).tell(2, 2, 2).bits(), "");
        fault("one of two bits, the last of 32", Told.small(0, 31).zeros(97).tell(1).zeros(158).tell(1).zeros(31)
                .tell(2).bits(), "");
    }

    private static void oneTellerAlone() {
        Check.sentence("HOLES (but for one code alone, of length 1)");
        // 18 alone tells zeros, which no symbols may be: only that is the fault.
        fault("a teller alone", Told.only(0, 0, 18, 1).zeros(138).tellMore(18, 109).bits(), "");
        // 8 alone tells 258 lengths of eight bits, which are over-full.
        Told eight = Told.only(0, 0, 8, 1);
        for (int i = 0; i < 258; i++) {
            eight.tell(8);
        }
        fault("8 alone", eight.bits(), "");
        fault("a bit that is no code", Told.only(0, 0, 18, 1).bits().raw("1"), "");
        fault("a bit that is no code, later", Told.only(0, 0, 18, 1).zeros(138).bits().raw("1"), "");
    }

    private static void oneSymbolAlone() {
        Check.sentence("HOLES (but for one code alone, of length 1)");
        good("256 alone", Told.small(0, 0).zeros(256).tell(1, 0).bits().raw("0"), "");
        Bits alone = Told.small(0, 0).zeros(97).tell(1).zeros(159).tell(0).bits().raw("0 0");
        endless("a alone", alone, "6161" + "61".repeat(restOf(alone)));
        fault("a bit that is no code", Told.small(0, 0).zeros(256).tell(1, 0).bits().raw("1"), "");
        fault("a bit that is no code, later", Told.small(0, 0).zeros(97).tell(1).zeros(159).tell(0).bits()
                .raw("0 0 1"), "6161");
    }

    private static Told withMatches(int b) {
        return Told.small(1, b).zeros(97).tell(2).zeros(158).tell(2, 1);
    }

    private static void oneDistanceAlone() {
        Check.sentence("HOLES (but for one code alone, of length 1)");
        good("distance 1 alone", withMatches(0).tell(1).bits().raw("10 0 0 11"), "61616161");
        good("distance 2 alone", withMatches(1).tell(0, 1).bits().raw("10 10 0 0 11"), "6161616161");
        good("it is not used", withMatches(0).tell(1).bits().raw("10 11"), "61");
        fault("a bit that is no code", withMatches(0).tell(1).bits().raw("10 0 1"), "61");
        fault("distance 32 alone, which is none", withMatches(31).zeros(31).tell(1).bits().raw("10 0 0"), "61");
        fault("distance 31 alone, which is none", withMatches(30).zeros(30).tell(1).bits().raw("10 0 0"), "61");
    }

    private static void noDistances() {
        Check.sentence("HOLES (but for one code alone, of length 1, or, of distances, none)");
        good("none of one", withMatches(0).tell(0).bits().raw("10 11"), "61");
        good("none of 32", withMatches(31).zeros(32).bits().raw("10 11"), "61");
        fault("a match all the same", withMatches(0).tell(0).bits().raw("10 0"), "61");
    }

    private static void asSoonAsAllAreTold() {
        Check.sentence("Both are faults as soon as all lengths are told (those of symbols and distances together");
        Told over = Told.small(0, 31).zeros(97).tell(1, 1).zeros(157).tell(1);
        for (int i = 0; i < 32; i++) {
            over.tell(0);
        }
        fault("over-full symbols, then 32 lengths", over.bits(), "");
        Told holes = Told.small(0, 31).zeros(97).tell(2, 2).zeros(157).tell(2);
        for (int i = 0; i < 32; i++) {
            holes.tell(0);
        }
        fault("symbols with holes, then 32 lengths", holes.bits(), "");
        Told cut = Told.small(0, 31).zeros(97).tell(1, 1).zeros(157).tell(1).tell(0, 0, 0, 0);
        endless("over-full symbols, the distances are cut", cut.bits(), "");
        Told beyond = Told.small(0, 31).zeros(97).tell(1, 1).zeros(157).tell(1);
        for (int i = 0; i < 22; i++) {
            beyond.tell(0);
        }
        fault("over-full symbols, then more than there are", beyond.tellMore(18, 0).bits(), "");
        Told tellers = Told.only(0, 0, 0, 1, 18, 1, 15, 7);
        fault("over-full tellers, all nineteen told", tellers.bits(), "");
        byte[] all = tellers.bits().done();
        byte[] less = java.util.Arrays.copyOf(all, all.length - 1);
        Check.unpacks("over-full tellers, cut", 4000, 0, less, -1 - less.length, "");
    }

    private static void endMayBeNone() {
        Check.sentence("256 may be none of them");
        Told told = Told.small(0, 0).zeros(97).tell(1, 1).zeros(158).tell(0);
        Bits stream = told.bits().raw("0 1 0 1 1");
        endless("a and b", stream, "6162616262" + "61".repeat(restOf(stream)));
    }

    private static void noSuchSymbols() {
        Check.sentence("286, 287, 30, 31 are none");
        for (int symbol = 286; symbol <= 287; symbol++) {
            Told told = Told.small(31, 31).zeros(97).tell(2).zeros(158).tell(2).zeros(symbol - 257).tell(1)
                    .zeros(287 - symbol).tell(1).zeros(31);
            fault("symbol " + symbol, told.bits().raw("10 0"), "61");
            Told passed = Told.small(31, 31).zeros(97).tell(2).zeros(158).tell(2).zeros(symbol - 257).tell(1)
                    .zeros(287 - symbol).tell(1).zeros(31);
            good("symbol " + symbol + " is told, but does not come", passed.bits().raw("10 11"), "61");
        }
        for (int symbol = 30; symbol <= 31; symbol++) {
            Told told = withMatches(31).tell(1).zeros(symbol - 1).tell(1).zeros(31 - symbol);
            fault("distance " + symbol, told.bits().raw("10 0 1"), "61");
            Told passed = withMatches(31).tell(1).zeros(symbol - 1).tell(1).zeros(31 - symbol);
            good("distance " + symbol + " is told, but does not come", passed.bits().raw("10 0 0 11"), "61616161");
        }
    }

    private static void toldTwice() {
        Check.sentence("Way 2 first tells them");
        Bits stream = Bits.flate().low(0, 1);
        new Told(stream, 1, 1, 0, 2, 1, 2, 2, 2, 18, 2).zeros(97).tell(2).zeros(158).tell(2, 1).tell(1, 1);
        stream.raw("10 0 0 11").low(0, 1);
        new Told(stream, 0, 0, 0, 2, 1, 2, 2, 2, 18, 2).zeros(98).tell(1).zeros(157).tell(1, 1);
        stream.raw("0 0 1").low(0, 1).low(1, 2).fixed('c').fixed(257).high(1, 5).fixed(256).low(1, 1);
        new Told(stream, 0, 0, 0, 2, 1, 2, 2, 2, 18, 2).zeros(100).tell(1).zeros(155).tell(1, 0);
        good("lengths of the block before are gone", stream.raw("0 1"), "61616161" + "6262" + "63" + "626362" + "64");
    }

    private static void fewerTellersThanBefore() {
        Check.sentence("c + 4 lengths, 3 bits each, of codes for 16, 17, 18, 0, 8, ..");
        Bits stream = Bits.flate().low(0, 1);
        new Told(stream, 0, 0, 18, 1, 0, 3, 1, 3, 15, 2).zeros(97).tell(1).zeros(158).tell(1, 0);
        stream.raw("0 0 1").low(1, 1);
        Told eight = new Told(stream, 0, 0, 16, 2, 0, 2, 8, 1);
        eight.tell(8);
        for (int i = 0; i < 42; i++) {
            eight.tellMore(16, 3);
        }
        eight.tellMore(16, 0).tell(0, 0);
        endless("lengths of tellers of the block before are gone", stream.high(200, 8).high(7, 8), "6161" + "c807");
    }

    private static void manyShortCodes() {
        Check.sentence("SYMBOLS by CODES");
        // By one bit each 4000 bytes take 500; the stream itself comes to be the bytes by FLATE.
        Bits most = Told.small(0, 0).zeros(97).tell(1).zeros(158).tell(1, 0).bits();
        for (int i = 0; i < 4000; i++) {
            most.raw("0");
        }
        byte[] due = Check.filled(4000, 'a');
        Run x = Run.with(most.raw("1").done(Run.adler(due)));
        Check.same("4000 symbols in one block", x.unpack(0), 4000);
        x.outSums("4000 symbols in one block", due);
        Check.no("4000 symbols in one block: differs", x.differs());
        // 635 blocks of ten bits, and the sum: 800 bytes.
        Bits blocks = Bits.flate();
        for (int i = 0; i < 635; i++) {
            blocks.low(i == 634 ? 1 : 0, 1).low(1, 2).fixed(256);
        }
        byte[] stream = blocks.done(1);
        Check.same("800 bytes", stream.length, 800);
        Run y = Run.with(stream);
        Check.same("635 blocks", y.unpack(0), 0);
        Check.no("635 blocks: differs", y.differs());
    }

    private static void cutHeads() {
        Check.sentence("the number of bytes, when they end");
        byte[] whole = withMatches(3).tell(2, 2, 2, 2).bits().raw("10 0 00 11").align().low(0, 32).done();
        Check.unpacks("whole", 4000, 0, whole, 4, "61616161");
        for (int size = 0; size < whole.length - 5; size++) {
            Check.unpacks("cut to " + size, 4000, 0, java.util.Arrays.copyOf(whole, size), -1 - size, "");
        }
    }
}
