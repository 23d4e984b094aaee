import java.util.Arrays;

/** Promises 7, 8, 9 and 10: each sentence with its edges. */
public final class TableSumChainTest {
    public static void main(String[] args) {
        tableAllUsed();
        tableHoles();
        tableWithoutCodes();
        tableOfOneAlone();
        tableOverFull();
        tableHalfBytes();
        sumOfBytes();
        sumModulo();
        remainder();
        sumOfNone();
        sumRefused();
        sumOfWhatOut();
        differsOnlyByFlate();
        differsOnlyAtTheEnd();
        differsInEachByte();
        differsOfTheLatest();
        differsBeforeAny();
        chainBecomes();
        chainFirst800();
        chainPacks();
        chainMovesOnly();
        chainRefused();
        chainLongerThanTheBound();
        chainOfNothing();
        Check.end();
    }

    private static void table(String what, int lengths, int due) {
        Check.same(what, new Run(0).table(lengths), due);
    }

    private static void tableAllUsed() {
        Check.sentence("1 when all codes that there are are used");
        table("1 1", 0x11, 1);
        table("1 2 2", 0x02010020, 1);
        table("1 2 3 3", 0x3321, 1);
        table("2 2 2 2", 0x22220000, 1);
        table("eight of 3", 0x33333333, 1);
        table("1 .. 7, 7", 0x77654321, 1);
        table("7, 7, 6 .. 1", 0x12345677, 1);
    }

    private static void tableHoles() {
        Check.sentence("0 when there are holes");
        table("1 2", 0x21, 0);
        table("1 2 3", 0x321, 0);
        table("2 2 2", 0x222, 0);
        table("1 .. 7, 8", 0x87654321, 0);
        table("1 .. 7, 15", 0xf7654321, 0);
        table("eight of 4", 0x44444444, 0);
        table("eight of 15", -1, 0);
        table("15 15", 0xff, 0);
    }

    private static void tableWithoutCodes() {
        Check.sentence("0 when there are holes (also without codes");
        table("none", 0, 0);
    }

    private static void tableOfOneAlone() {
        Check.sentence("0 when there are holes (also .. of one alone)");
        for (int shift = 0; shift < 32; shift += 4) {
            for (int length = 1; length <= 15; length++) {
                table(length + " at " + shift / 4, length << shift, 0);
            }
        }
    }

    private static void tableOverFull() {
        Check.sentence("-1 when they are over-full");
        table("1 1 1", 0x111, -1);
        table("1 1 15", 0xf0000011, -1);
        table("1 2 2 15", 0xf2010020, -1);
        table("1 .. 7, 6", 0x67654321, -1);
        table("eight of 1", 0x11111111, -1);
        table("eight of 2", 0x22222222, -1);
        table("seven of 3 and a 2", 0x23333333, -1);
        table("15, then 1 1", 0x11f, -1);
    }

    private static void tableHalfBytes() {
        Check.sentence("Eight lengths (0 .. 15, the half bytes of a number)");
        for (int one = 0; one < 32; one += 4) {
            for (int other = one + 4; other < 32; other += 4) {
                table("1 at " + one / 4 + " and " + other / 4, (1 << one) | (1 << other), 1);
                table("1 and 2 at " + one / 4 + " and " + other / 4, (1 << one) | (2 << other), 0);
            }
        }
        Run x = Run.with(Check.text("41>"));
        x.unpack(3);
        x.table(0x11);
        x.outIs("nothing is changed", "41");
        Check.same("nothing is changed", x.unpack(3), 1);
    }

    private static void sumOfBytes() {
        Check.sentence("a is 1, b 0; for each byte a grows by it, b by a; it is 65536 b + a");
        Run x = Run.with(Check.text("31323334 35363738 39>"));
        x.unpack(3);
        Check.same("123456789", x.sum(0), 0x091e01deL);
        Run one = Run.with(Check.text("FF>"));
        one.unpack(3);
        Check.same("255", one.sum(0), 256L * 65536 + 256);
    }

    /** So many bytes alike in the out. */
    private static Run alike(int count, int value) {
        Run x = new Run(4000);
        for (int left = count; left > 0;) {
            int run = Math.min(left, 128);
            if (left - run == 1) {
                run--;
            }
            x.add(257 - run);
            x.add(value);
            left -= run;
        }
        x.add(128);
        Check.same("alike", x.unpack(2), count);
        return x;
    }

    private static void sumModulo() {
        Check.sentence("modulo 65521");
        // 257 of 254 and 1 more: a is 65279; 256 of 255 make 65281, 257 of them 65536.
        for (int count : new int[] {22, 23, 256, 257, 258, 300, 2000, 3999, 4000}) {
            Run x = alike(count, 255);
            Check.same(count + " of 255", x.sum(0), Run.adler(Check.filled(count, 255)));
        }
        // 1 + 240 * 273 is 65521, which is 0.
        Run zero = alike(273, 240);
        Check.same("a of just 65521", zero.sum(0) & 65535, 0);
        Check.same("a of just 65521", zero.sum(0), Run.adler(Check.filled(273, 240)));
        // The highest bit of the sum: b above 32767.
        Run high = alike(16, 255);
        Check.same("b above 32767", high.sum(0), 34696L * 65536 + 4081);
        for (int value = 0; value < 256; value += 15) {
            Check.same("4000 of " + value, alike(4000, value).sum(0), Run.adler(Check.filled(4000, value)));
        }
    }

    private static void remainder() {
        Check.sentence("(1) its remainder by the polynomial 0xedb88320, bits lowest first, begun with and at last turned by 0xffffffff");
        Run x = Run.with(Check.text("31323334 35363738 39>"));
        x.unpack(3);
        Check.same("123456789", x.sum(1), 0xcbf43926L);
        for (int value : new int[] {0, 1, 127, 128, 255}) {
            Check.same("4000 of " + value, alike(4000, value).sum(1), Run.crc(Check.filled(4000, value)));
        }
        Run all = Run.with(Check.range(0, 255));
        all.pack(0, 0);
        byte[] due = Oracle.flate(Check.range(0, 255), 0);
        Check.same("all bytes", all.sum(1), Run.crc(due));
        Check.same("all bytes", all.sum(0), Run.adler(due));
    }

    private static void sumOfNone() {
        Check.sentence("Of the out: its SUM (kind 0), or (1) its remainder");
        Run x = new Run(4000);
        Check.same("sum of none", x.sum(0), 1);
        Check.same("remainder of none", x.sum(1), 0);
        Run bytes = Run.with(Check.text("ab"));
        Check.same("the bytes are not the out", bytes.sum(0), 1);
    }

    private static void sumRefused() {
        Check.sentence("its SUM (kind 0), or (1) its remainder. IllegalArgumentException.");
        Run x = Run.with(Check.text("41>"));
        x.unpack(3);
        for (int kind : new int[] {Integer.MIN_VALUE, -2, -1, 2, 3, 256, Integer.MAX_VALUE}) {
            Check.refused("sum " + kind, IllegalArgumentException.class, () -> x.sum(kind));
        }
        Check.same("0", x.sum(0), 0x00420042);
        Check.same("1", x.sum(1), 0xd3d99e8bL);
    }

    private static void sumOfWhatOut() {
        Check.sentence("Of the out: its SUM");
        // With a predictor it is of what comes behind it, not of what was packed.
        Run x = Run.with(Check.bytes(1, 2, 4));
        x.predictor(2, 1, 8, 3);
        x.pack(0, 0);
        x.chain(-1);
        x.unpack(0);
        Check.same("behind the predictor", x.sum(0), Run.adler(Check.bytes(1, 2, 4)));
        Check.no("and it does not differ", x.differs());
    }

    private static boolean differs(String hex, int kind) {
        Run x = Run.with(Check.fromHex(hex));
        x.unpack(kind);
        return x.differs();
    }

    private static void differsOnlyByFlate() {
        Check.sentence("Whether the latest unpacking was by FLATE");
        Run x = Run.with(Check.fromHex("78014b040000620063"));
        Check.same("a sum that differs is no fault", x.unpack(0), 1);
        Check.yes("it differs", x.differs());
        for (int kind = 1; kind <= 4; kind++) {
            x.unpack(kind);
            Check.no("kind " + kind, x.differs());
            x.unpack(0);
            Check.yes("by FLATE again", x.differs());
        }
    }

    private static void differsOnlyAtTheEnd() {
        Check.sentence("came to its end");
        String whole = "78014b040099999999";
        Check.yes("whole", differs(whole, 0));
        for (int size = 0; size < 9; size++) {
            Check.no("cut to " + size, differs(whole.substring(0, 2 * size), 0));
        }
        Check.no("a fault in a block", differs("780107" + "9999999999", 0));
        Run beyond = Run.with(0, Check.fromHex(whole));
        beyond.unpack(0);
        Check.no("beyond the bound", beyond.differs());
        Check.yes("with bytes behind", differs(whole + "0102", 0));
    }

    private static void differsInEachByte() {
        Check.sentence("and its sum differed");
        byte[] good = Check.fromHex("78014b040000620062");
        Check.no("the right one", differs(Check.hex(good), 0));
        for (int place = 5; place < 9; place++) {
            for (int bit = 0; bit < 8; bit++) {
                byte[] other = Arrays.copyOf(good, 9);
                other[place] ^= (byte) (1 << bit);
                Check.yes("byte " + place + " bit " + bit, differs(Check.hex(other), 0));
            }
        }
        Check.yes("0", differs("78014b040000000000", 0));
        Check.no("of none", differs("7801010000ffff00000001", 0));
        Check.yes("of none, another", differs("7801010000ffff00000000", 0));
        Run x = Run.with(Check.fromHex("78014b040000620063"));
        x.predictor(12, 1, 8, 1);
        x.unpack(0);
        Check.yes("with a predictor", x.differs());
        // The right sum has the highest bit: 20 of 255.
        byte[] high = Oracle.flate(Check.filled(20, 255), 1);
        Check.no("a sum above 2^31", differs(Check.hex(high), 0));
    }

    private static void differsOfTheLatest() {
        Check.sentence("Whether the latest unpacking ..");
        Run x = Run.with(Check.fromHex("78014b040000620063"));
        x.unpack(0);
        x.pack(0, 3);
        Check.yes("packing is none", x.differs());
        x.pack(2, 0);
        x.predictor(2, 1, 8, 1);
        x.predictor(0, 1, 8, 1);
        x.add(1);
        Check.yes("nor is another call", x.differs());
        x.chain(-1);
        Check.yes("nor is a chain", x.differs());
        x.chain(2);
        Check.yes("nor is a chain that packs", x.differs());
        Check.refused("unpack 5", IllegalArgumentException.class, () -> x.unpack(5));
        Check.yes("nor is one that is refused", x.differs());
        x.unpack(2);
        Check.no("another one is", x.differs());
    }

    private static void differsBeforeAny() {
        Check.sentence("Whether the latest unpacking ..");
        Run x = new Run(4000);
        Check.no("there was none", x.differs());
        x.pack(0, 0);
        Check.no("packed only", x.differs());
        x.chain(-1);
        Check.no("chained only", x.differs());
    }

    private static void chainBecomes() {
        Check.sentence("The out becomes the bytes");
        Run x = Run.with(Check.text("ab"));
        x.pack(3, 0);
        Check.same("halves of halves", x.chain(3), 11);
        x.outIs("halves of halves", Check.text("363136323E>"));
        Check.same("the bytes are the first halves", x.unpack(3), 2);
        x.outIs("the bytes are the first halves", "6162");
        x.add('x');
        x.pack(2, 0);
        x.outIs("one more behind them", Check.join(Check.bytes(5), Check.text("6162>x"), Check.bytes(128)));
    }

    private static void chainFirst800() {
        Check.sentence("The out becomes the bytes (the first 800)");
        int[] sizes = {799, 800, 801, 1000, 4000};
        for (int size : sizes) {
            Run x = alike(size, 7);
            int count = Math.min(size, 800);
            Check.same(size + " in the out", x.chain(2), 2 * ((count + 127) / 128) + 1);
            Check.same(size + " in the out: halves of the bytes", x.pack(3, 0), 2 * count + 1);
        }
        // 801 bytes of which the 800th and the 801st differ from the others.
        Run x = Run.with(Check.bytes(129, 1, 129, 1, 129, 1, 129, 1, 129, 1, 129, 1, 226, 1, 1, 2, 3, 128));
        Check.same("801", x.unpack(2), 801);
        Check.same("801 stay in the out", x.chain(-1), 801);
        x.pack(3, 0);
        Check.same("the 800th is the last one", x.cell(2), '2');
        Check.same("halves of 800", x.outSize(), 1601);
    }

    private static void chainPacks() {
        Check.sentence("and is packed by a kind (FLATE: level 3)");
        for (int kind = 1; kind <= 4; kind++) {
            Run a = Run.with(Check.text("chain chain"));
            a.pack(4, 0);
            Run b = Run.with(a.outBytes());
            Check.same("kind " + kind, a.chain(kind), b.pack(kind, 0));
            a.outIs("kind " + kind, b.outBytes());
        }
        // What is least by levels 0, 1 and 2.
        byte[][] samples = {Check.range(0, 99), Check.filled(50, 'a'), skewed()};
        for (int level = 0; level <= 2; level++) {
            Run x = new Run(4000);
            x.addAll(samples[level]);
            x.pack(2, 0);
            byte[] runs = x.outBytes();
            int size = x.chain(0);
            Check.same("FLATE, sample " + level, size, Oracle.flate(runs, 3).length);
            x.outSums("FLATE, sample " + level, Oracle.flate(runs, 3));
        }
        Run p = Run.with(Check.text("01030608>"));
        p.predictor(2, 1, 8, 4);
        p.unpack(3);
        Check.same("with a predictor", p.chain(1), 7);
        p.outIs("with a predictor", Bits.dictionary().high(256, 9).high(1, 9).high(2, 9).high(3, 9).high(2, 9)
                .high(257, 9).done());
        p.predictor(0, 1, 8, 1);
        p.pack(3, 0);
        p.outIs("the bytes are without it", Check.text("01030608>"));
    }

    private static byte[] skewed() {
        byte[] data = new byte[180];
        int state = 7;
        for (int i = 0; i < data.length; i++) {
            state = state * 1103515245 + 12345;
            data[i] = (byte) (200 + ((state >>> 16) & 3));
        }
        return data;
    }

    private static void chainMovesOnly() {
        Check.sentence("kind -1: only becomes them: how many the out has then");
        Run x = Run.with(Check.text("ab"));
        x.pack(3, 0);
        Check.same("five", x.chain(-1), 5);
        x.outIs("the out stays", Check.text("6162>"));
        Check.same("again", x.chain(-1), 5);
        Check.same("it became the bytes", x.unpack(3), 2);
        Run none = Run.with(Check.text("abc"));
        Check.same("an empty out", none.chain(-1), 0);
        Check.same("the bytes went", none.pack(3, 0), 1);
        Run much = alike(4000, 9);
        Check.same("4000", much.chain(-1), 4000);
        Check.same("the out stays", much.outSize(), 4000);
        Run predicted = Run.with(Check.text("01030608>"));
        predicted.predictor(2, 1, 8, 4);
        predicted.unpack(3);
        Check.same("a predictor is nothing to it", predicted.chain(-1), 4);
        predicted.outIs("a predictor is nothing to it", "01030608");
    }

    private static void chainRefused() {
        Check.sentence("is packed by a kind; kind -1: only becomes them. IllegalArgumentException");
        Run x = Run.with(Check.text("4142>"));
        x.unpack(3);
        for (int kind : new int[] {Integer.MIN_VALUE, -3, -2, 5, 6, 256, Integer.MAX_VALUE}) {
            Check.refused("chain " + kind, IllegalArgumentException.class, () -> x.chain(kind));
        }
        x.outIs("the out is as it was", "4142");
        Check.same("the bytes are as they were", x.unpack(3), 2);
    }

    private static void chainLongerThanTheBound() {
        Check.sentence("UnsupportedOperationException when it would be longer than the bound (then the bytes are as they were)");
        int[] sizes = {10, 5, 4, 5, 5};
        for (int kind = 0; kind <= 4; kind++) {
            int asked = kind;
            Run just = Run.with(sizes[kind], Check.text("4142>"));
            just.unpack(3);
            Check.same("kind " + kind + ", just the bound", just.chain(kind), sizes[kind]);
            Check.same("kind " + kind + ", the bytes are AB", just.unpack(2), -1 - 2);
            Run less = Run.with(sizes[kind] - 1, Check.text("4142>"));
            less.unpack(3);
            Check.refused("kind " + kind + ", one longer", UnsupportedOperationException.class, () -> less.chain(asked));
            less.outIs("kind " + kind + ", the out is as it was", "4142");
            Check.same("kind " + kind + ", the bytes are as they were", less.unpack(3), 2);
        }
    }

    private static void chainOfNothing() {
        Check.sentence("The out becomes the bytes");
        for (int kind = 0; kind <= 4; kind++) {
            Run x = Run.with(Check.text("abc"));
            Run y = new Run(4000);
            Check.same("kind " + kind + " of an empty out", x.chain(kind), y.pack(kind, 3));
            x.outIs("kind " + kind + " of an empty out", y.outBytes());
            Check.same("kind " + kind + ": the bytes went", x.pack(3, 0), 1);
        }
    }
}
