import java.util.Random;

/** Promise 4, by the dictionary, run lengths, halves and fives. */
public final class UnpackOthersTest {
    public static void main(String[] args) {
        wrongKinds();
        dictionary();
        dictionaryWidths();
        runs();
        halves();
        fives();
        bothWays();
        neverByTheMachine();
        Check.end();
    }

    private static void wrongKinds() {
        FlateFilter x = Check.with(Check.text("41>"));
        x.unpack(3);
        for (int kind : new int[] {-1, 5, 6, Integer.MIN_VALUE, Integer.MAX_VALUE}) {
            Check.refused("unpack " + kind, IllegalArgumentException.class, () -> x.unpack(kind));
        }
        Check.same("the out stays", Check.hexOf(x), "41");
        Check.same("the bytes stay", x.unpack(3), 1);
    }

    private static void dictionary(String what, Bits stream, int answer, String out) {
        Check.unpacks("dictionary: " + what, 4000, 1, stream.done(), answer, out);
    }

    private static void dictionary() {
        Check.unpacks("dictionary of the book", 4000, 1, Check.fromHex("800b6050220c0c8501"), 10,
                "2d2d2d2d2d412d2d2d42");
        Check.unpacks("no bytes", 4000, 1, new byte[0], -1, "");
        dictionary("without 256", Bits.dictionary().high(97, 9).high(258, 9).high(257, 9), 3, "616161");
        dictionary("bytes behind the end", Bits.dictionary().high(97, 9).high(257, 9).high(99, 9).high(98, 9), 1, "61");
        dictionary("no end", Bits.dictionary().high(97, 9).high(98, 9), -4, "6162");
        dictionary("an entry as the first", Bits.dictionary().high(258, 9).high(257, 9), -2, "");
        dictionary("an entry behind 256",
                Bits.dictionary().high(97, 9).high(97, 9).high(256, 9).high(258, 9).high(257, 9), -5, "6161");
        dictionary("one beyond the entry that comes",
                Bits.dictionary().high(256, 9).high(97, 9).high(259, 9).high(257, 9), -4, "61");
        dictionary("256 begins anew", Bits.dictionary().high(97, 9).high(98, 9).high(256, 9).high(99, 9)
                .high(100, 9).high(258, 9).high(257, 9), 6, "616263646364");
        dictionary("256 twice", Bits.dictionary().high(256, 9).high(256, 9).high(98, 9).high(257, 9), 1, "62");
        Bits anew = Bits.dictionary();
        for (int i = 0; i < 711; i++) {
            anew.high(256, 9);
        }
        dictionary("800 bytes of 256", anew, -1 - 800, "");
        Check.unpacks("entry beyond the bound", 2, 1,
                Bits.dictionary().high(97, 9).high(258, 9).high(257, 9).done(), -3, "6161");
        Check.unpacks("byte beyond the bound", 1, 1,
                Bits.dictionary().high(97, 9).high(98, 9).high(257, 9).done(), -3, "61");
    }

    private static void dictionaryWidths() {
        // With the 255th code entry 511 would come: it and those behind it have ten bits.
        for (int codes : new int[] {253, 254, 255, 256, 300}) {
            Bits stream = Bits.dictionary();
            StringBuilder due = new StringBuilder();
            for (int n = 1; n <= codes; n++) {
                stream.high(n & 255, n >= 255 ? 10 : 9);
                due.append(String.format("%02x", n & 255));
            }
            stream.high(257, codes + 1 >= 255 ? 10 : 9);
            dictionary(codes + " codes", stream, codes, due.toString());
        }
        Bits anew = Bits.dictionary();
        for (int n = 1; n <= 260; n++) {
            anew.high(0, n >= 255 ? 10 : 9);
        }
        anew.high(256, 10).high(65, 9).high(257, 9);
        dictionary("nine bits again behind 256", anew, 261, "00".repeat(260) + "41");
        Bits entry = Bits.dictionary();
        for (int n = 1; n <= 256; n++) {
            entry.high(n & 255, n >= 255 ? 10 : 9);
        }
        entry.high(511, 10).high(257, 10);
        StringBuilder due = new StringBuilder();
        for (int n = 1; n <= 256; n++) {
            due.append(String.format("%02x", n & 255));
        }
        dictionary("entry 511", entry, 258, due + "fe" + "ff");
    }

    private static void runs() {
        Check.unpacks("runs: none", 4000, 2, new byte[0], -1, "");
        Check.unpacks("runs: end", 4000, 2, Check.bytes(128, 5), 0, "");
        Check.unpacks("runs: others", 4000, 2, Check.bytes(2, 1, 2, 3, 128), 3, "010203");
        Check.unpacks("runs: 128 others", 4000, 2,
                Check.join(Check.bytes(127), Check.join(Check.filled(128, 6), Check.bytes(128))), 128,
                "06".repeat(128));
        Check.unpacks("runs: two alike", 4000, 2, Check.bytes(255, 7, 128), 2, "0707");
        Check.unpacks("runs: 128 alike", 4000, 2, Check.bytes(129, 7, 128), 128, "07".repeat(128));
        Check.unpacks("runs: no end", 4000, 2, Check.bytes(0, 7), -3, "07");
        Check.unpacks("runs: others cut", 4000, 2, Check.bytes(3, 7, 8), -4, "0708");
        Check.unpacks("runs: run cut", 4000, 2, Check.bytes(0, 7, 200), -4, "07");
        Check.unpacks("runs: others beyond the bound", 2, 2, Check.bytes(2, 1, 2, 3, 128), -4, "0102");
        Check.unpacks("runs: run beyond the bound", 2, 2, Check.bytes(254, 9, 128), -2, "0909");
        Check.unpacks("runs: just the bound", 3, 2, Check.bytes(254, 9, 128), 3, "090909");
    }

    private static void halves(String what, String signs, int answer, String out) {
        Check.unpacks("halves: " + what, 4000, 3, Check.text(signs), answer, out);
    }

    private static void halves() {
        halves("none", "", -1, "");
        halves("end", ">", 0, "");
        halves("great and small", "0aF9fF>", 3, "0af9ff");
        halves("one alone", "417>", 2, "4170");
        halves("a 0 alone", "0>", 1, "00");
        halves("800 blanks", " ".repeat(800), -1 - 800, "");
        halves("the end as the 800th", " ".repeat(799) + ">", 0, "");
        halves("blanks", " 4\n1\t4 \0002 >xx", 2, "4142");
        halves("a blank before the end", "4 >", 1, "40");
        halves("wrong", "41G1>", -3, "41");
        halves("wrong as the second", "414@>", -4, "41");
        halves("just beside the signs", "/", -1, "");
        halves("just behind the signs", "0:", -2, "");
        halves("high bytes are wrong", "41\u00a0>", -3, "41");
        halves("no end", "4142", -5, "4142");
        halves("no end, one alone", "41424", -6, "4142");
        Check.unpacks("halves: beyond the bound", 1, 3, Check.text("4142>"), -4, "41");
        Check.unpacks("halves: one alone beyond the bound", 1, 3, Check.text("414 >"), -5, "41");
        Check.unpacks("halves: just the bound", 2, 3, Check.text("4142>"), 2, "4142");
    }

    private static void fives(String what, String signs, int answer, String out) {
        Check.unpacks("fives: " + what, 4000, 4, Check.text(signs), answer, out);
    }

    private static void fives() {
        fives("none", "", -1, "");
        fives("end", "~>", 0, "");
        fives("five", "9jqo^~>rest", 4, "4d616e20");
        fives("four alone", "9jqo~>", 3, "4d616e");
        fives("three alone", "9jn~>", 2, "4d61");
        fives("two alone", "9`~>", 1, "4d");
        fives("one alone", "9jqo^9~>", -7, "4d616e20");
        fives("800 blanks", " ".repeat(800), -1 - 800, "");
        fives("the end as the 800th", " ".repeat(798) + "~>", 0, "");
        fives("z", "z9jqo^z~>", 12, "000000004d616e2000000000");
        fives("z within", "9jz~>", -3, "");
        fives("blanks", "9 j\nq\0o ^ ~>", 4, "4d616e20");
        fives("the greatest", "s8W-!~>", 4, "ffffffff");
        fives("more than the greatest", "s8W-\"~>", -5, "");
        fives("more than the greatest, later", "zs8X!!~>", -6, "00000000");
        fives("more than the greatest by filling", "s8X~>", -4, "");
        fives("just not more by filling", "s8V~>", 2, "ffff".substring(0, 4));
        fives("all u", "uuuuu~>", -5, "");
        fives("a blank behind ~", "9jqo~ >", -6, "4d616e");
        fives("another behind ~", "~x>", -2, "");
        fives("the end behind ~", "9jqo~", -6, "4d616e");
        fives("no end", "9jqo^9j", -8, "4d616e20");
        fives("wrong sign", "9jv", -3, "");
        fives("{ is wrong", "{", -1, "");
        fives("high bytes are wrong", "9\u00ff", -2, "");
        Check.unpacks("fives: beyond the bound", 2, 4, Check.text("9jqo^~>"), -5, "4d61");
        Check.unpacks("fives: z beyond the bound", 5, 4, Check.text("9jqo^z~>"), -6, "4d616e2000");
        Check.unpacks("fives: alone beyond the bound", 1, 4, Check.text("9jqo~>"), -5, "4d");
    }

    private static void bothWays() {
        Random random = new Random(3);
        for (int round = 0; round < 300; round++) {
            byte[] data = Samples.of(random, round % 9);
            for (int kind = 0; kind <= 4; kind++) {
                FlateFilter x = Check.with(data);
                int size = x.pack(kind, round % 4);
                if (size <= 800) {
                    x.chain(-1);
                    Check.same("kind " + kind + " round " + round, x.unpack(kind), data.length);
                    Check.same("kind " + kind + " round " + round, Check.hexOf(x), Check.hex(data));
                }
            }
        }
    }

    private static void neverByTheMachine() {
        Random random = new Random(4);
        for (int round = 0; round < 3000; round++) {
            byte[] noise = new byte[random.nextInt(60)];
            random.nextBytes(noise);
            byte[] stream = round % 2 == 0 ? noise : Check.join(Check.bytes(120, 1), noise);
            FlateFilter x = Check.with(random.nextInt(300), stream);
            x.predictor(random.nextInt(17), 1 + random.nextInt(4), 8, 1 + random.nextInt(9));
            for (int kind = 0; kind <= 4; kind++) {
                int answer = x.unpack(kind);
                Check.same("in range", answer >= -1 - stream.length && answer <= 300 ? 1 : 0, 1);
                if (answer >= 0) {
                    Check.same("as many as told", Check.outSize(x), answer);
                }
            }
        }
    }
}
