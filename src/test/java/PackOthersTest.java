/** Promise 3, by the dictionary, run lengths, halves and fives. */
public final class PackOthersTest {
    public static void main(String[] args) {
        dictionary();
        usedObject();
        widths();
        runs();
        halves();
        fives();
        levelIsOfFlateAlone();
        boundOfEach();
        Check.end();
    }

    private static void dictionary() {
        Check.packs("dictionary of none", 1, 0, new byte[0], "804040");
        // The example of the format's own book: 256 45 258 258 65 259 66 257.
        Check.packs("dictionary of the book", 1, 0, Check.bytes(45, 45, 45, 45, 45, 65, 45, 45, 45, 66),
                "800b6050220c0c8501");
        Check.packs("entries that begin with 0", 1, 0, Check.filled(7, 0),
                Check.hex(Bits.dictionary().high(256, 9).high(0, 9).high(258, 9).high(259, 9).high(0, 9)
                        .high(257, 9).done()));
        Check.packs("the entry that comes with its code", 1, 0, Check.text("aaaaaa"),
                Check.hex(Bits.dictionary().high(256, 9).high(97, 9).high(258, 9).high(259, 9)
                        .high(257, 9).done()));
    }

    /** What stood in the rows of an object before does not show. */
    private static void usedObject() {
        FlateFilter x = Check.with(Check.bytes(1, 2, 2, 255, 255, 255, 255, 255));
        for (int round = 0; round < 2; round++) {
            Check.same("halves", x.pack(3, 0), 17);
            Check.same("dictionary", x.pack(1, 0), 9);
            Check.same("dictionary", Check.hexOf(x), Check.hex(Bits.dictionary().high(256, 9).high(1, 9)
                    .high(2, 9).high(2, 9).high(255, 9).high(261, 9).high(261, 9).high(257, 9).done()));
        }
        FlateFilter y = Check.with(Check.bytes(1, 1, 2, 128));
        y.unpack(2);
        y.chain(-1);
        y.pack(4, 0);
        Check.same("two, filled up with 0", Check.hexOf(y), Check.hex(Check.text("!<N~>")));
        Check.same("1, 2, where a 2 stood behind", y.pack(2, 0), 4);
        Check.same("1, 2, where a 2 stood behind", Check.hexOf(y), "01010280");
    }

    /** The n-th code behind 256 would bring entry 256 + n, which sets its bits. */
    private static void widths() {
        for (int count : new int[] {253, 254, 255, 256, 400, 765, 766, 767, 768, 800}) {
            byte[] data = withoutPairs(count);
            Bits due = Bits.dictionary().high(256, 9);
            for (int n = 1; n <= count + 1; n++) {
                int entry = Math.max(258, 256 + n);
                int width = entry >= 1023 ? 11 : entry >= 511 ? 10 : 9;
                due.high(n <= count ? data[n - 1] & 255 : 257, width);
            }
            Check.packs("dictionary of " + count + " lone bytes", 1, 0, data, Check.hex(due.done()));
        }
    }

    /** Bytes of which no two stand behind one another twice. */
    private static byte[] withoutPairs(int count) {
        byte[] data = new byte[count];
        for (int i = 0; i < count; i++) {
            int turn = i / 256;
            data[i] = (byte) (i * (2 * turn + 1));
        }
        return data;
    }

    private static void runs() {
        Check.packs("runs of none", 2, 0, new byte[0], "80");
        Check.packs("one alone", 2, 0, Check.bytes(5), "000580");
        Check.packs("two alike", 2, 0, Check.bytes(5, 5), "ff0580");
        Check.packs("others up to two alike", 2, 0, Check.bytes(1, 2, 3, 3, 4), "010102ff03000480");
        Check.packs("one before two alike", 2, 0, Check.bytes(1, 2, 2), "0001ff0280");
        Check.packs("128 alike", 2, 0, Check.filled(128, 9), "810980");
        Check.packs("129 alike", 2, 0, Check.filled(129, 9), "8109000980");
        Check.packs("130 alike", 2, 0, Check.filled(130, 9), "8109ff0980");
        Check.packs("129 alike and another", 2, 0, Check.join(Check.filled(129, 9), Check.bytes(1)),
                "810901090180");
        StringBuilder lone = new StringBuilder();
        byte[] data = new byte[129];
        for (int i = 0; i < 129; i++) {
            data[i] = (byte) i;
            lone.append(i == 128 ? "00" : "").append(String.format("%02x", i));
        }
        Check.packs("129 others", 2, 0, data, "7f" + lone + "80");
    }

    private static void halves() {
        Check.packs("halves of none", 3, 0, new byte[0], Check.hex(Check.text(">")));
        Check.packs("halves", 3, 0, Check.bytes(0, 9, 10, 15, 16, 171, 205, 239, 255),
                Check.hex(Check.text("00090A0F10ABCDEFFF>")));
    }

    private static void fives() {
        Check.packs("fives of none", 4, 0, new byte[0], Check.hex(Check.text("~>")));
        Check.packs("four", 4, 0, Check.text("Man "), Check.hex(Check.text("9jqo^~>")));
        Check.packs("one", 4, 0, Check.text("M"), Check.hex(Check.text("9`~>")));
        Check.packs("two", 4, 0, Check.text("Ma"), Check.hex(Check.text("9jn~>")));
        Check.packs("three", 4, 0, Check.text("Man"), Check.hex(Check.text("9jqo~>")));
        Check.packs("three, filled up with 0", 4, 0, Check.bytes(0, 0, 84), Check.hex(Check.text("!!#s~>")));
        Check.packs("four 0", 4, 0, Check.filled(4, 0), Check.hex(Check.text("z~>")));
        Check.packs("seven 0", 4, 0, Check.filled(7, 0), Check.hex(Check.text("z!!!!~>")));
        Check.packs("the greatest", 4, 0, Check.filled(4, 255), Check.hex(Check.text("s8W-!~>")));
        Check.packs("z between", 4, 0, Check.bytes(0, 0, 0, 1, 0, 0, 0, 0, 1, 0, 0, 0),
                Check.hex(Check.text("!!!!\"z!<<*\"~>")));
    }

    private static void levelIsOfFlateAlone() {
        for (int kind = 1; kind <= 4; kind++) {
            FlateFilter x = Check.with(Check.text("level"));
            int size = x.pack(kind, 0);
            Check.same("kind " + kind + " level -9", x.pack(kind, -9), size);
            Check.same("kind " + kind + " level 4", x.pack(kind, 4), size);
        }
    }

    private static void boundOfEach() {
        int[] sizes = {0, 8, 7, 11, 9};
        byte[] data = Check.text("bound");
        for (int kind = 1; kind <= 4; kind++) {
            int which = kind;
            Check.same("kind " + kind + " fits", Check.with(sizes[kind], data).pack(kind, 0), sizes[kind]);
            FlateFilter x = Check.with(sizes[kind] - 1, data);
            Check.refused("kind " + kind + " does not fit", UnsupportedOperationException.class,
                    () -> x.pack(which, 0));
            Check.same("no out", Check.outSize(x), 0);
        }
    }
}
