import java.util.Random;
import java.util.zip.DataFormatException;
import java.util.zip.Inflater;

/** Promise 3, by FLATE. */
public final class PackFlateTest {
    private static final String TEXT = "abracadabra abracadabra aaaaaaaaaaaaaaaaaaaaa bcbcbcbcbcb abracad";

    public static void main(String[] args) throws DataFormatException {
        stored();
        fixed();
        told();
        least();
        wrongOnes();
        anotherUnpacks();
        Check.end();
    }

    private static void stored() {
        Check.packs("level 0 of none", 0, 0, new byte[0], "7801010000ffff00000001");
        Check.packs("level 0 of a", 0, 0, Check.text("a"), "7801010100feff6100620062");
        FlateFilter x = Check.with(Check.filled(800, 255));
        Check.same("level 0 of 800", x.pack(0, 0), 811);
        Check.same("length, lower byte", x.out(3) & 255, 800 % 256);
        Check.same("length, higher byte", x.out(4) & 255, 800 / 256);
        Check.same("turned length", (x.out(5) & 255) + 256 * (x.out(6) & 255), 65535 - 800);
    }

    private static void fixed() {
        Check.packs("level 1 of none", 0, 1, new byte[0], "7801030000000001");
        Check.packs("level 1 of a", 0, 1, Check.text("a"), "78014b040000620062");
        Check.packs("level 1, the match runs into its place", 0, 1, Check.filled(10, 'a'),
                Check.hex(Bits.flate().low(1, 1).low(1, 2).fixed('a').fixed(263).high(0, 5).fixed(256)
                        .done(0x14e103cbL)));
        Check.packs("level 1, two bytes alike are no match", 0, 1, Check.text("abab"),
                Check.hex(Bits.flate().low(1, 1).low(1, 2).fixed('a').fixed('b').fixed('a').fixed('b')
                        .fixed(256).done(Oracle.sum(Check.text("abab")))));
        Check.packs("level 1, 258 and then 3 more", 0, 1, Check.filled(262, 'a'),
                Check.hex(Bits.flate().low(1, 1).low(1, 2).fixed('a').fixed(285).high(0, 5)
                        .fixed(257).high(0, 5).fixed(256).done(0x02786347L)));
        Check.packs("level 1, a greater match at the next place", 0, 1, Check.text("abc bcde abcde"),
                Check.hex(Bits.flate().low(1, 1).low(1, 2).fixed('a').fixed('b').fixed('c').fixed(' ')
                        .fixed('b').fixed('c').fixed('d').fixed('e').fixed(' ').fixed('a')
                        .fixed(258).high(4, 5).low(1, 1).fixed(256).done(0x240f04e4L)));
        Check.packs("level 1, one as great at the next place is not waited for", 0, 1,
                Check.text("abcXbcdYabcd"),
                Check.hex(Bits.flate().low(1, 1).low(1, 2).fixed('a').fixed('b').fixed('c').fixed('X')
                        .fixed('b').fixed('c').fixed('d').fixed('Y').fixed(257).high(5, 5).low(1, 1)
                        .fixed('d').fixed(256).done(Oracle.sum(Check.text("abcXbcdYabcd")))));
        Check.packs("level 1, the least distance of two", 0, 1, Check.text("abc.abc,abc"),
                Check.hex(Bits.flate().low(1, 1).low(1, 2).fixed('a').fixed('b').fixed('c').fixed('.')
                        .fixed(257).high(3, 5).fixed(',').fixed(257).high(3, 5).fixed(256)
                        .done(Oracle.sum(Check.text("abc.abc,abc")))));
        Check.packs("level 1, bytes of nine bits", 0, 1, Check.bytes(143, 144, 255),
                Check.hex(Bits.flate().low(1, 1).low(1, 2).fixed(143).fixed(144).fixed(255).fixed(256)
                        .done(Oracle.sum(Check.bytes(143, 144, 255)))));
    }

    private static void told() {
        // Lengths: 256 zeros, one 1, and a 0 for no distance: 18, 18, 1, 0.
        // Of 0, 1, 18 the first has one bit, the others two: 0, 10, 11.
        Check.packs("level 2 of none", 0, 2, new byte[0],
                Check.hex(Bits.flate().low(1, 1).low(2, 2).low(0, 5).low(0, 5).low(14, 4)
                        .raw("000 000 010 100").raw("000 000 000 000 000 000 000 000 000 000 000 000 000 010")
                        .raw("11").low(127, 7).raw("11").low(107, 7).raw("10 0").raw("0").done(1)));
        Check.packs("level 2, alike counts", 0, 2, Check.text("abcc"), toldAbcc());
        Check.packs("level 2 of a text", 0, 2, Check.text(TEXT),
                "78016d8ab10900000c835ec96b497a41ff1f4a87160ad5c10ca192667470f607e475de0520211817");
        Check.packs("level 2, one distance", 0, 2, Check.filled(10, 'a'),
                "78013dc0210100000080a0adfc3f61130b14e103cb");
    }

    // Groups: 256 (1) and b (1) are the greatest of count 1, so they join (2, 256 its greatest);
    // then a (1) and, of 2 and 2, the one with 256; then that (3) and c (2). c 1, a 2, b 3, 256 3.
    // Lengths: 97 zeros, 2, 3, 1, 156 zeros, 3, 0: 18 2 3 1 18 18 3 0, of 0 1 2 3 18 three have two bits.
    private static String toldAbcc() {
        return Check.hex(Bits.flate().low(1, 1).low(2, 2).low(0, 5).low(0, 5).low(14, 4)
                .low(0, 3).low(0, 3).low(3, 3).low(2, 3).low(0, 3).low(0, 3).low(0, 3).low(0, 3).low(0, 3)
                .low(0, 3).low(0, 3).low(0, 3).low(0, 3).low(3, 3).low(0, 3).low(2, 3).low(0, 3).low(2, 3)
                .raw("111").low(97 - 11, 7).raw("10 110 01").raw("111").low(127, 7).raw("111").low(7, 7)
                .raw("110 00")
                .raw("10 110 0 0 111").done(Oracle.sum(Check.text("abcc"))));
    }

    private static void least() {
        Check.packs("level 3 is level 1 here", 0, 3, Check.text(TEXT),
                "78014b4c2a4a4c4e4c01510a286c6c402129190e61aa0120211817");
        byte[] all = new byte[256];
        for (int i = 0; i < 256; i++) {
            all[i] = (byte) i;
        }
        Check.same("level 3 is level 0 here", Check.with(all).pack(0, 3), 267);
        byte[] few = new byte[700];
        int state = 1;
        for (int i = 0; i < few.length; i++) {
            state = state * 1103515245 + 12345;
            few[i] = (byte) (200 + ((state >>> 16) & 3));
        }
        FlateFilter x = Check.with(few);
        int third = x.pack(0, 3);
        Check.same("level 3 is level 2 here", third, x.pack(0, 2));
        Check.same("level 1 is longer", x.pack(0, 1) > third ? 1 : 0, 1);
        // 25 bytes of nine bits and ten of the block's own fill 30 bytes, as 25 bytes stored do.
        byte[] alike = new byte[25];
        for (int i = 0; i < alike.length; i++) {
            alike[i] = (byte) (150 + 4 * i);
        }
        FlateFilter y = Check.with(alike);
        Check.same("level 0", y.pack(0, 0), 36);
        String stored = Check.hexOf(y);
        Check.same("level 1 is as long", y.pack(0, 1), 36);
        y.pack(0, 3);
        Check.same("the first of alike levels", Check.hexOf(y), stored);
    }

    private static void wrongOnes() {
        FlateFilter x = Check.with(12, Check.text("ab"));
        Check.same("level 1 fits", x.pack(0, 1), 10);
        String before = Check.hexOf(x);
        Check.refused("level 0 does not fit", UnsupportedOperationException.class, () -> x.pack(0, 0));
        Check.refused("level 2 does not fit", UnsupportedOperationException.class, () -> x.pack(0, 2));
        Check.refused("level -1", IllegalArgumentException.class, () -> x.pack(0, -1));
        Check.refused("level 4", IllegalArgumentException.class, () -> x.pack(0, 4));
        Check.refused("kind -1", IllegalArgumentException.class, () -> x.pack(-1, 0));
        Check.refused("kind 5", IllegalArgumentException.class, () -> x.pack(5, 0));
        Check.refused("kind least", IllegalArgumentException.class, () -> x.pack(Integer.MIN_VALUE, 9));
        Check.same("the out stays", Check.hexOf(x), before);
        Check.same("the bytes stay", x.pack(0, 3), 10);
        FlateFilter exact = Check.with(10, Check.text("ab"));
        Check.same("just as long as the bound", exact.pack(0, 1), 10);
        FlateFilter less = Check.with(9, Check.text("ab"));
        Check.refused("one longer than the bound", UnsupportedOperationException.class, () -> less.pack(0, 1));
        Check.refused("the exception named first", IllegalArgumentException.class, () -> less.pack(0, 7));
    }

    /** The Java library unpacks what each level packed. */
    private static void anotherUnpacks() throws DataFormatException {
        Random random = new Random(7);
        for (int round = 0; round < 300; round++) {
            byte[] data = Samples.of(random, round % 9);
            FlateFilter x = Check.with(data);
            int[] sizes = new int[4];
            for (int level = 0; level < 4; level++) {
                sizes[level] = x.pack(0, level);
                byte[] packed = Check.outOf(x);
                Inflater inflater = new Inflater();
                inflater.setInput(packed);
                byte[] back = new byte[data.length + 1];
                int got = inflater.inflate(back);
                Check.same("round " + round + " level " + level + " ended", inflater.finished() ? 1 : 0, 1);
                Check.same("round " + round + " level " + level, Check.hex(java.util.Arrays.copyOf(back, got)),
                        Check.hex(data));
                Check.same("all was taken", inflater.getBytesRead(), packed.length);
                inflater.end();
            }
            Check.same("the least", sizes[3], Math.min(sizes[0], Math.min(sizes[1], sizes[2])));
        }
    }
}
