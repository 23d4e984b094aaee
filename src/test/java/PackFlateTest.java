import java.util.Arrays;

/** Promise 3 by FLATE: each sentence with its edges. */
public final class PackFlateTest {
    private static final String TEXT = "abracadabra abracadabra aaaaaaaaaaaaaaaaaaaaa bcbcbcbcbcb abracad";

    public static void main(String[] args) {
        frame();
        stored();
        leastMatch();
        greatestMatch();
        runsInto();
        leastDistance();
        greatestLength();
        lazily();
        wayOne();
        countsOfCodes();
        alikeCounts();
        oneAlone();
        noDistances();
        smallestNumbers();
        runsOfZeros();
        runsOfOthers();
        runsFromSymbolsToDistances();
        tellers();
        smallestC();
        wholeStreams();
        least();
        leastOfAlikeOnes();
        levels();
        bound();
        usedObject();
        bytesStay();
        Check.end();
    }

    private static Bits fixed() {
        return Bits.flate().low(1, 1).low(1, 2);
    }

    private static void one(String what, String text, Bits due) {
        byte[] data = Check.text(text);
        Check.packs(what, 0, 1, data, due.fixed(256).done(Run.adler(data)));
    }

    private static void frame() {
        Check.sentence("FLATE: bytes 120 and 1, BLOCKS, the SUM of what was packed (four bytes, highest first)");
        Check.packs("level 0", 0, 0, Check.text("a"), "7801 01 0100feff 61 00620062");
        Check.packs("level 1", 0, 1, Check.text("a"), "7801 4b0400 00620062");
        // 300 bytes of 255: a is 76501 - 65521, and b was cut often.
        Run x = Run.with(Check.filled(300, 255));
        x.pack(0, 1);
        Check.same("the sum's two lower bytes", x.cell(2) * 256 + x.cell(1), (1 + 300 * 255) % 65521);
        long b = 0;
        for (int i = 1; i <= 300; i++) {
            b = (b + (1 + i * 255) % 65521) % 65521;
        }
        Check.same("the sum's two higher bytes", x.cell(4) * 256 + x.cell(3), b);
    }

    private static void stored() {
        Check.sentence("level 0: blocks of way 0 (of all: one; of none: one of no bytes)");
        Check.packs("of none", 0, 0, new byte[0], "7801 01 0000ffff 00000001");
        byte[] many = Check.filled(300, 7);
        Check.packs("of 300", 0, 0, many, Check.join(Check.fromHex("7801 01 2c01d3fe"), many,
                Check.fromHex(String.format("%08x", Run.adler(many)))));
        Run x = Run.with(Check.filled(800, 255));
        Check.same("of 800", x.pack(0, 0), 811);
        Check.same("it is the last block, of way 0", x.out(2), 1);
        Check.same("its length", (x.out(3) & 255) + 256 * (x.out(4) & 255), 800);
        Check.same("65535 less it", (x.out(5) & 255) + 256 * (x.out(6) & 255), 65535 - 800);
        x.predictor(10, 1, 8, 1);
        Check.same("of 800 with a byte before each", x.pack(0, 0), 1611);
        Check.same("it is the last block, of way 0", x.out(2), 1);
        Check.same("its length", (x.out(3) & 255) + 256 * (x.out(4) & 255), 1600);
    }

    private static void leastMatch() {
        Check.sentence("at a place the greatest length 3 .. 258");
        one("two alike are none", "abab", fixed().fixed('a').fixed('b').fixed('a').fixed('b'));
        one("three alike are one", "abcabc", fixed().fixed('a').fixed('b').fixed('c').fixed(257).high(2, 5));
        one("three of the same", "aaa", fixed().fixed('a').fixed('a').fixed('a'));
        one("four of the same", "aaaa", fixed().fixed('a').fixed(257).high(0, 5));
        one("none", "", fixed());
    }

    private static void greatestMatch() {
        Check.sentence("at a place the greatest length 3 .. 258");
        one("257", "a".repeat(258), fixed().fixed('a').fixed(284).low(30, 5).high(0, 5));
        one("258", "a".repeat(259), fixed().fixed('a').fixed(285).high(0, 5));
        one("258 and one", "a".repeat(260), fixed().fixed('a').fixed(285).high(0, 5).fixed('a'));
        one("258 and two", "a".repeat(261), fixed().fixed('a').fixed(285).high(0, 5).fixed('a').fixed('a'));
        one("258 and three", "a".repeat(262), fixed().fixed('a').fixed(285).high(0, 5).fixed(257).high(0, 5));
        for (int length = 3; length <= 258; length++) {
            byte[] data = Check.filled(length + 1, 'a');
            Block due = new Block().alone('a').match(length, 1);
            Check.packs("length " + length, 0, 1, data, due.done());
        }
    }

    private static void runsInto() {
        Check.sentence("bytes that stand at an earlier place, too (which may run into it)");
        one("ten", "a".repeat(10), fixed().fixed('a').fixed(263).high(0, 5));
        one("three bytes again and again", "abcabcabcab", fixed().fixed('a').fixed('b').fixed('c').fixed(262).high(2, 5));
    }

    private static void leastDistance() {
        Check.sentence("at the least distance");
        one("the nearer of two", "abc.abc,abc", fixed().fixed('a').fixed('b').fixed('c').fixed('.').fixed(257).high(3, 5)
                .fixed(',').fixed(257).high(3, 5));
        one("the nearer of three", "abcd1abcd2abcd3abcd", fixed().fixed('a').fixed('b').fixed('c').fixed('d').fixed('1')
                .fixed(258).high(4, 5).low(0, 1).fixed('2').fixed(258).high(4, 5).low(0, 1).fixed('3').fixed(258)
                .high(4, 5).low(0, 1));
        for (int distance : new int[] {1, 2, 3, 4, 5, 6, 7, 8, 9, 12, 13, 16, 17, 24, 25, 32, 33, 48, 49, 64, 65, 96, 97,
            128, 129, 192, 193, 256}) {
            byte[] data = Check.join(Check.range(0, distance - 1), Check.range(0, 2 < distance ? 2 : distance - 1));
            if (distance >= 3) {
                Block due = new Block();
                for (int i = 0; i < distance; i++) {
                    due.alone(i);
                }
                Check.packs("distance " + distance, 0, 1, data, due.match(3, distance).done());
            }
        }
        farDistances();
    }

    /** Bytes of which no three come twice, then the first three again. */
    private static void farDistances() {
        for (int distance : new int[] {257, 384, 385, 397}) {
            byte[] data = new byte[distance + 3];
            Block due = new Block();
            for (int i = 0; i < distance; i++) {
                data[i] = (byte) (i < 256 ? i : 3 * i + 1);
                due.alone(data[i] & 255);
            }
            System.arraycopy(data, 0, data, distance, 3);
            Check.packs("distance " + distance, 0, 1, data, due.match(3, distance).done());
        }
        // 'a', then 'b' 509 times and more, then what began it.
        for (int distance : new int[] {512, 513, 514, 768, 769, 796}) {
            byte[] data = Check.filled(distance + 4, 'b');
            data[0] = 'x';
            data[2] = 'y';
            System.arraycopy(data, 0, data, distance, 4);
            Block due = new Block().alone('x').alone('b').alone('y').alone('b');
            for (int left = distance - 4; left > 0;) {
                int length = Math.min(left, 258);
                if (length < 3) {
                    due.alone('b');
                    length = 1;
                } else {
                    due.match(length, 1);
                }
                left -= length;
            }
            Check.packs("distance " + distance, 0, 1, data, due.match(4, distance).done());
        }
    }

    private static void greatestLength() {
        Check.sentence("the greatest length of bytes that stand at an earlier place");
        one("a farther one is longer", "abcde.abc,abcde", fixed().fixed('a').fixed('b').fixed('c').fixed('d').fixed('e')
                .fixed('.').fixed(257).high(4, 5).low(1, 1).fixed(',').fixed(259).high(6, 5).low(1, 2));
    }

    private static void lazily() {
        Check.sentence("if at the next place there is a greater one, the byte goes alone, and it is asked there anew; "
                + "else the match is taken");
        one("a greater one", "abc bcde abcde", fixed().fixed('a').fixed('b').fixed('c').fixed(' ').fixed('b').fixed('c')
                .fixed('d').fixed('e').fixed(' ').fixed('a').fixed(258).high(4, 5).low(1, 1));
        one("one as great", "abcXbcdYabcd", fixed().fixed('a').fixed('b').fixed('c').fixed('X').fixed('b').fixed('c')
                .fixed('d').fixed('Y').fixed(257).high(5, 5).low(1, 1).fixed('d'));
        one("greater ones, place by place", "abc.bcde,cdefg;abcdefg", fixed().fixed('a').fixed('b').fixed('c').fixed('.')
                .fixed('b').fixed('c').fixed('d').fixed('e').fixed(',').fixed(257).high(3, 5).fixed('f').fixed('g')
                .fixed(';').fixed('a').fixed('b').fixed(259).high(5, 5).low(1, 1));
        one("a greater one two places on is not seen", "abcd.cdefg,abcdefg", fixed().fixed('a').fixed('b').fixed('c')
                .fixed('d').fixed('.').fixed('c').fixed('d').fixed('e').fixed('f').fixed('g').fixed(',').fixed(258)
                .high(6, 5).low(2, 2).fixed(257).high(5, 5).low(1, 1));
        one("without a match the next place is not asked", "xabcabc", fixed().fixed('x').fixed('a').fixed('b').fixed('c')
                .fixed(257).high(2, 5));
    }

    private static void wayOne() {
        Check.sentence("level 1 by way 1");
        Check.packs("of none", 0, 1, new byte[0], "7801030000000001");
        Check.packs("bytes of eight and nine bits", 0, 1, Check.bytes(0, 143, 144, 255),
                fixed().fixed(0).fixed(143).fixed(144).fixed(255).fixed(256).done(Run.adler(Check.bytes(0, 143, 144, 255))));
        Check.packs("a text", 0, 1, Check.text(TEXT), "78014b4c2a4a4c4e4c01510a286c6c402129190e61aa0120211817");
    }

    private static Head head(byte[] data) {
        Run x = Run.with(data);
        int size = x.pack(0, 2);
        byte[] begin = new byte[Math.min(size, x.callsLeft())];
        for (int i = 0; i < begin.length; i++) {
            begin[i] = x.out(i);
        }
        return new Head(begin);
    }

    private static void bitsOf(String what, String text, String due) {
        Head head = head(Check.text(text));
        StringBuilder got = new StringBuilder();
        for (int symbol = 0; symbol < head.symbols.length; symbol++) {
            if (head.symbols[symbol] > 0) {
                got.append(symbol < 256 ? "" + (char) symbol : symbol == 256 ? "." : "" + symbol + ":");
                got.append(head.symbols[symbol]).append(' ');
            }
        }
        Check.same(what, got.toString().trim(), due);
    }

    private static void countsOfCodes() {
        Check.sentence("of the symbols that come (with 256), and of distances, two groups of the least counts become one, "
                + "as long as there are two; each symbol of them has a bit more");
        // 256 1 and b 2 become 3; they and c 4 become 7; they and a 8 fifteen. No three bytes come twice.
        bitsOf("8 2 4 1", "aabacaccaaacba", "a1 b3 c2 .3");
        bitsOf("a, b, c and the end", "abc", "a2 b2 c2 .2");
        bitsOf("a and the end", "aa", "a1 .1");
    }

    private static void alikeCounts() {
        Check.sentence("two groups of the least counts (of alike ones those with the greatest symbols)");
        // b and 256 become one (2); a and, of c (2) and that one, the one with 256; then c.
        bitsOf("1 1 2 1", "abcc", "a2 b3 c1 .3");
        // Of a, b, 256, each 1, b and 256 become one (2), and a has one bit.
        bitsOf("1 1 1", "ab", "a1 b2 .2");
        // Five of 1: d, 256; then b, c; then a and, of two groups of 2, the one with 256; then that and b, c.
        bitsOf("1 1 1 1 1", "abcd", "a2 b2 c2 d3 .3");
        // 256 and c (2); then of b 1 alone, and a 2, that 2: b and the one with 256 (3); a.
        bitsOf("2 1 1 1", "aabc", "a1 b2 c3 .3");
    }

    private static void oneAlone() {
        Check.sentence("one alone has 1 bit");
        Head none = head(new byte[0]);
        Check.same("256 alone", none.symbols[256], 1);
        Head one = head(Check.filled(10, 'a'));
        Check.same("one distance alone", Arrays.toString(one.distances), "[1]");
        Head other = head(Check.text("abcdabcd"));
        Check.same("distance 4 alone", Arrays.toString(other.distances), "[0, 0, 0, 1]");
    }

    private static void noDistances() {
        Check.sentence("a, b are as small as can be");
        Check.same("no match: one length", Arrays.toString(head(Check.text("ab")).distances), "[0]");
        Check.same("nothing: one length", Arrays.toString(head(new byte[0]).distances), "[0]");
    }

    private static void smallestNumbers() {
        Check.sentence("a, b are as small as can be");
        Check.same("no match: a", head(Check.text("abc")).a, 0);
        Check.same("no match: b", head(Check.text("abc")).b, 0);
        Check.same("length 3: a", head(Check.text("abcabc")).a, 1);
        Check.same("distance 3: b", head(Check.text("abcabc")).b, 2);
        Check.same("length 10: a", head(Check.filled(11, 'a')).a, 8);
        Check.same("length 257: a", head(Check.filled(258, 'a')).a, 28);
        Check.same("length 258: a", head(Check.filled(259, 'a')).a, 29);
        Check.same("distance 1: b", head(Check.filled(259, 'a')).b, 0);
        byte[] far = Check.join(Check.range(0, 255), Check.range(0, 2));
        Check.same("distance 256: b", head(far).b, 15);
    }

    /** Bytes 0 and q alone: 0 has one bit, q and 256 have two, between them are q - 1 and 255 - q zeros. */
    private static void zeros(int count, String due) {
        Head head = head(Check.bytes(0, count + 1));
        Check.same(count + " zeros", head.told.substring(0, due.length() + 5), "1 " + due + " 2 ");
    }

    private static void runsOfZeros() {
        Check.sentence("from a place a run of zeros of 11 .. 138 by 18, of 3 .. 10 by 17, as long as can be, else one by one");
        zeros(1, "0");
        zeros(2, "0 0");
        zeros(3, "17+0");
        zeros(4, "17+1");
        zeros(9, "17+6");
        zeros(10, "17+7");
        zeros(11, "18+0");
        zeros(12, "18+1");
        zeros(137, "18+126");
        zeros(138, "18+127");
        zeros(139, "18+127 0");
        zeros(140, "18+127 0 0");
        zeros(141, "18+127 17+0");
        zeros(148, "18+127 17+7");
        zeros(149, "18+127 18+0");
        zeros(254, "18+127 18+105");
        Check.same("no zeros", head(Check.bytes(0, 1)).told.substring(0, 4), "1 2 ");
        Check.same("of none", head(new byte[0]).told, "18+127 18+107 1 0");
    }

    /** So many bytes in groups with 256, a power of two of all alike ones. */
    private static void alike(String what, String due, int... groups) {
        int place = 0;
        byte[] data = new byte[0];
        for (int size : groups) {
            data = Check.join(data, Check.range(place, place + size - 1));
            place += size + 1;
        }
        Check.same(what, head(data).told.substring(0, due.length()), due);
    }

    private static void runsOfOthers() {
        Check.sentence("of others alike ones of 3 .. 6 behind one by 16, as long as can be, else one by one");
        alike("3", "2 2 2 18", 3);
        alike("1, 2, 4", "3 0 3 3 0 3 16+0 18", 1, 2, 4);
        alike("7", "3 16+3 18", 7);
        alike("8, 6, 1", "4 16+3 4 0 4 16+2 0 4 18", 8, 6, 1);
        alike("9, 5, 1", "4 16+3 4 4 0 4 16+1 0 4 18", 9, 5, 1);
        alike("10, 5", "4 16+3 16+0 0 4 16+1 18", 10, 5);
        alike("12, 3", "4 16+3 16+2 0 4 4 4 18", 12, 3);
        alike("13, 2", "4 16+3 16+3 0 4 4 18", 13, 2);
        alike("14, 1", "4 16+3 16+3 4 0 4 18", 14, 1);
        alike("15", "4 16+3 16+3 4 4 18", 15);
    }

    private static void runsFromSymbolsToDistances() {
        Check.sentence("a + 257 lengths of symbols and b + 1 of distances, one behind the other");
        // Four matches of length 3, at distances 1 .. 4: 257 has two bits, and so have they.
        Head head = head(Check.text("aaaabcbcbdefdefghijghi"));
        Check.same("257", head.symbols[257], 2);
        Check.same("distances", Arrays.toString(head.distances), "[2, 2, 2, 2]");
        Check.same("their run goes on from 257", head.told.substring(head.told.length() - 6), "2 16+1");
    }

    private static void tellers() {
        Check.sentence("Of n different ones (with 16 .. 18) that come, k being the least number with 2^k >= n, "
                + "the first 2^k - n of them by number have k - 1 bits, others k");
        // 0, 1, 18
        Check.same("three", Arrays.toString(head(new byte[0]).tellers), bitsOfTellers(0, 1, 1, 2, 18, 2));
        // 0, 1, 2, 18: 18 2 1 is told for a, b and 256.
        Check.same("four", Arrays.toString(head(Check.text("ab")).tellers), bitsOfTellers(0, 2, 1, 2, 2, 2, 18, 2));
        // 0, 1, 2, 3, 18
        Check.same("five", Arrays.toString(head(Check.text("abcc")).tellers),
                bitsOfTellers(0, 2, 1, 2, 2, 2, 3, 3, 18, 3));
        for (int size = 1; size <= 120; size++) {
            byte[] data = mixed(size);
            Head head = head(data);
            boolean[] comes = new boolean[19];
            for (String one : head.told.split(" ")) {
                comes[Integer.parseInt(one.split("[+]")[0])] = true;
            }
            int n = 0;
            for (boolean one : comes) {
                n += one ? 1 : 0;
            }
            int k = n <= 2 ? 1 : n <= 4 ? 2 : n <= 8 ? 3 : n <= 16 ? 4 : 5;
            int shorter = (1 << k) - n;
            for (int teller = 0; teller < 19; teller++) {
                int due = !comes[teller] ? 0 : shorter-- > 0 ? k - 1 : k;
                Check.same("size " + size + " teller " + teller, head.tellers[teller], due);
            }
        }
    }

    private static String bitsOfTellers(int... pairs) {
        int[] all = new int[19];
        for (int i = 0; i < pairs.length; i += 2) {
            all[pairs[i]] = pairs[i + 1];
        }
        return Arrays.toString(all);
    }

    /** Bytes of which some come often and some seldom. */
    private static byte[] mixed(int size) {
        byte[] data = new byte[size];
        int state = size;
        for (int i = 0; i < size; i++) {
            state = state * 1103515245 + 12345;
            int high = (state >>> 16) & 255;
            data[i] = (byte) (high * high / 300);
        }
        return data;
    }

    private static void smallestC() {
        Check.sentence("c is as small as can be");
        Check.same("1 is the last but one of nineteen", head(new byte[0]).c, 14);
        for (int size = 1; size <= 120; size++) {
            Head head = head(mixed(size));
            Check.yes("size " + size, head.c == 0 || head.tellers[Oracle.ORDER[head.c + 3]] > 0);
        }
        // 256 bytes by eight bits, but two, and no more: 9 is told as the seventh, 16, 17, 18, 0, 8, 7, 9.
        Check.same("all bytes", head(Check.range(0, 255)).c, 3);
    }

    private static void wholeStreams() {
        Check.sentence("One block: level 1 by way 1, level 2 by way 2");
        Check.packs("level 2 of none", 0, 2, new byte[0], Told.only(0, 0, 0, 1, 1, 2, 18, 2).zeros(256).tell(1, 0).bits()
                .raw("0").done(1));
        Check.packs("level 2, alike counts", 0, 2, Check.text("abcc"),
                Told.only(0, 0, 0, 2, 1, 2, 2, 2, 3, 3, 18, 3).zeros(97).tell(2, 3, 1).zeros(156).tell(3, 0).bits()
                        .raw("10 110 0 0 111").done(Run.adler(Check.text("abcc"))));
        Check.packs("level 2 of a text", 0, 2, Check.text(TEXT),
                "78016d8ab10900000c835ec96b497a41ff1f4a87160ad5c10ca192667470f607e475de0520211817");
        Check.packs("level 2, one distance", 0, 2, Check.filled(10, 'a'), "78013dc0210100000080a0adfc3f61130b14e103cb");
    }

    private static void least() {
        Check.sentence("level 3: the least of levels 0, 1, 2");
        byte[][] samples = {Check.range(0, 255), Check.text(TEXT), few()};
        for (int i = 0; i < samples.length; i++) {
            Run x = Run.with(samples[i]);
            int[] sizes = {x.pack(0, 0), x.pack(0, 1), x.pack(0, 2)};
            int least = Math.min(sizes[0], Math.min(sizes[1], sizes[2]));
            int level = sizes[0] == least ? 0 : sizes[1] == least ? 1 : 2;
            Check.same("sample " + i + " is by level", level, i);
            Check.same("sample " + i, x.pack(0, 3), least);
            x.outSums("sample " + i, Oracle.flate(samples[i], level));
        }
    }

    private static byte[] few() {
        byte[] data = new byte[390];
        int state = 1;
        for (int i = 0; i < data.length; i++) {
            state = state * 1103515245 + 12345;
            data[i] = (byte) (200 + ((state >>> 16) & 3));
        }
        return data;
    }

    private static void leastOfAlikeOnes() {
        Check.sentence("level 3: the least of levels 0, 1, 2 (the first one)");
        // 25 bytes of nine bits and ten bits more fill 30 bytes, as 25 bytes stored do.
        byte[] stored = new byte[25];
        for (int i = 0; i < stored.length; i++) {
            stored[i] = (byte) (150 + 4 * i);
        }
        alikeLevels("0 and 1", stored, 0, 1);
        alikeLevels("1 and 2", Check.fromHex("859590ab818b92888e8c8f89858c879c9f8a8590838d9285848882948693"
                + "8c8d8186978b97819797998996899091"), 1, 2);
        alikeLevels("0 and 2", Check.fromHex("ebf9e8eaf8faf8fcecf600ea0917e9050f19edfaf002eb00f4fbf1f5f301e7eaf8f8"
                + "e7ebede9f7ecf4e60eee0301ef040617f60bf709e8f6eff0"), 0, 2);
    }

    private static void alikeLevels(String what, byte[] data, int first, int second) {
        Run x = Run.with(data);
        int size = x.pack(0, first);
        Check.same(what + " are as long", x.pack(0, second), size);
        Check.yes(what + " are the least", x.pack(0, 3 - first - second) > size);
        Check.same(what, x.pack(0, 3), size);
        x.outSums(what, Oracle.flate(data, first));
    }

    private static void levels() {
        Check.sentence("level, 0 .. 3, of FLATE alone");
        Run x = Run.with(Check.text("ab"));
        for (int level : new int[] {Integer.MIN_VALUE, -2, -1, 4, 5, 256, Integer.MAX_VALUE}) {
            Check.refused("level " + level, IllegalArgumentException.class, () -> x.pack(0, level));
        }
        for (int level = 0; level <= 3; level++) {
            Check.yes("level " + level, x.pack(0, level) > 0);
        }
    }

    private static void bound() {
        Check.sentence("UnsupportedOperationException when it would be longer than the bound");
        byte[] data = Check.text("ab");
        for (int level = 0; level <= 3; level++) {
            int asked = level;
            int size = Oracle.flate(data, level).length;
            Run just = Run.with(size, data);
            Check.same("level " + level + ", just the bound", just.pack(0, level), size);
            just.outIs("level " + level + ", just the bound", Oracle.flate(data, level));
            Run less = Run.with(size - 1, data);
            Check.refused("level " + level + ", one longer", UnsupportedOperationException.class,
                    () -> less.pack(0, asked));
            Check.same("level " + level + ", no out", less.outSize(), 0);
        }
        // Level 0 takes 13 bytes, level 1 ten: level 3 fits, though what it looks at does not.
        Run third = Run.with(10, data);
        Check.refused("level 0 does not fit", UnsupportedOperationException.class, () -> third.pack(0, 0));
        Check.same("level 3 fits", third.pack(0, 3), 10);
        third.outIs("level 3 fits", Oracle.flate(data, 1));
        Run none = new Run(0);
        Check.refused("bound 0", UnsupportedOperationException.class, () -> none.pack(0, 1));
    }

    /** The lengths told first have one more behind where the second ones end, and it is like their last ones. */
    private static void usedObject() {
        Check.sentence("Lengths are told: .. of others alike ones of 3 .. 6 behind one by 16");
        Run x = Run.with(Check.text("aaddddacaaaaaaaaaadcaacaaa"));
        x.pack(0, 2);
        x.pack(3, 0);
        x.chain(-1);
        Check.same("halves are no FLATE", x.unpack(0), -1);
        Check.same("no bytes are left", x.chain(-1), 0);
        byte[] second = Check.text("abaaaaabaaaaaaabbbaaaaaaaba");
        x.addAll(second);
        x.pack(0, 2);
        x.outIs("nothing of the first ones shows", Oracle.flate(second, 2));
    }

    private static void bytesStay() {
        Check.sentence("The bytes are PACKED by a kind and stay");
        Run x = Run.with(Check.text(TEXT));
        for (int level = 0; level <= 3; level++) {
            x.pack(0, level);
        }
        x.pack(3, 0);
        x.outIs("halves of them", Check.text(Check.hex(Check.text(TEXT)).toUpperCase() + ">"));
    }
}
