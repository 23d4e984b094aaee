import java.util.Random;
import java.util.zip.Adler32;
import java.util.zip.CRC32;

/** Promises 7, 8 and 10. */
public final class TableSumChainTest {
    public static void main(String[] args) {
        table();
        sums();
        moveOnly();
        chain();
        chainRefused();
        chainJustFits();
        chainOfMuch();
        Check.end();
    }

    private static void table() {
        FlateFilter x = new FlateFilter(0);
        Check.same("no codes", x.table(0), 0);
        Check.same("one alone of one bit", x.table(1), 0);
        Check.same("one alone of 15 bits", x.table(0xf0000000), 0);
        Check.same("two of one bit", x.table(0x11), 1);
        Check.same("two of one bit, apart", x.table(0x10000001), 1);
        Check.same("three of one bit", x.table(0x111), -1);
        Check.same("1 2 2", x.table(0x02010020), 1);
        Check.same("1 2 2 15", x.table(0xf2010020), -1);
        Check.same("1 2 3 3", x.table(0x3321), 1);
        Check.same("1 2 3", x.table(0x321), 0);
        Check.same("eight of three bits", x.table(0x33333333), 1);
        Check.same("eight of four bits", x.table(0x44444444), 0);
        Check.same("eight of two bits", x.table(0x22222222), -1);
        Check.same("eight of fifteen bits", x.table(-1), 0);
        Check.same("1 .. 7, 7", x.table(0x77654321), 1);
        Check.same("1 .. 7, 8", x.table(0x87654321), 0);
        Check.same("1 .. 7, 6", x.table(0x67654321), -1);
        Check.same("eight of one bit", x.table(0x11111111), -1);
    }

    private static void sums() {
        FlateFilter x = Check.with(Check.text("31323334 35363738 39>"));
        x.unpack(3);
        Check.same("sum of 123456789", x.sum(0), 0x091e01deL);
        Check.same("remainder of 123456789", x.sum(1), 0xcbf43926L);
        for (int kind : new int[] {-1, 2, Integer.MAX_VALUE, Integer.MIN_VALUE}) {
            Check.refused("sum " + kind, IllegalArgumentException.class, () -> x.sum(kind));
        }
        FlateFilter many = new FlateFilter(4000);
        for (int i = 0; i < 32; i++) {
            many.add((byte) 129);
            many.add((byte) 255);
        }
        many.unpack(2);
        byte[] all = Check.outOf(many);
        Adler32 adler = new Adler32();
        adler.update(all);
        CRC32 crc = new CRC32();
        crc.update(all);
        Check.same("of 4000 high bytes", many.sum(0), adler.getValue());
        Check.same("remainder of 4000 high bytes", many.sum(1), crc.getValue());
        Random random = new Random(1);
        for (int round = 0; round < 50; round++) {
            FlateFilter y = Check.with(Samples.of(random, round % 9));
            y.pack(0, 0);
            adler.reset();
            adler.update(Check.outOf(y));
            crc.reset();
            crc.update(Check.outOf(y));
            Check.same("sum, round " + round, y.sum(0), adler.getValue());
            Check.same("remainder, round " + round, y.sum(1), crc.getValue());
        }
    }

    private static void moveOnly() {
        FlateFilter x = Check.with(Check.text("abc"));
        Check.same("an empty out", x.chain(-1), 0);
        Check.same("the bytes went", x.pack(3, 0), 1);
        x.add((byte) 'a');
        x.add((byte) 'b');
        x.pack(3, 0);
        Check.same("five", x.chain(-1), 5);
        Check.same("the out stays", Check.hexOf(x), Check.hex(Check.text("6162>")));
        Check.same("it became the bytes", x.unpack(3), 2);
        Check.same("unpacked", Check.hexOf(x), "6162");
        x.add((byte) 'x');
        x.pack(3, 0);
        Check.same("a byte goes behind them", Check.hexOf(x), Check.hex(Check.text("363136323E78>")));
    }

    private static void chain() {
        FlateFilter x = Check.with(Check.text("ab"));
        x.pack(3, 0);
        Check.same("halves of halves", x.chain(3), 11);
        Check.same("halves of halves", Check.hexOf(x), Check.hex(Check.text("363136323E>")));
        Check.same("the bytes are the first halves", x.unpack(3), 2);
        FlateFilter y = Check.with(Check.filled(300, 'a'));
        y.pack(3, 0);
        FlateFilter level3 = Check.with(Check.outOf(y));
        level3.pack(0, 3);
        y.chain(0);
        Check.same("FLATE by level 3", Check.hexOf(y), Check.hexOf(level3));
        for (int kind = 1; kind <= 4; kind++) {
            FlateFilter a = Check.with(Check.text("chain chain"));
            a.pack(4, 0);
            FlateFilter b = Check.with(Check.outOf(a));
            Check.same("kind " + kind, a.chain(kind), b.pack(kind, 0));
            Check.same("kind " + kind, Check.hexOf(a), Check.hexOf(b));
        }
        FlateFilter p = Check.with(Check.text("7!>"));
        p.predictor(12, 1, 8, 2);
        p.unpack(3);
        p.predictor(12, 1, 8, 2);
        FlateFilter q = new FlateFilter(4000);
        q.predictor(12, 1, 8, 2);
        Check.same("with a predictor", p.chain(0), q.pack(0, 3));
    }

    private static void chainRefused() {
        FlateFilter x = Check.with(8, Check.text("abc"));
        x.pack(3, 0);
        for (int kind : new int[] {-2, 5, Integer.MIN_VALUE, Integer.MAX_VALUE}) {
            Check.refused("chain " + kind, IllegalArgumentException.class, () -> x.chain(kind));
        }
        Check.refused("longer than the bound", UnsupportedOperationException.class, () -> x.chain(3));
        Check.refused("longer than the bound, FLATE", UnsupportedOperationException.class, () -> x.chain(0));
        Check.same("the out stays", Check.hexOf(x), Check.hex(Check.text("616263>")));
        Check.same("the bytes stay", x.pack(3, 0), 7);
        Check.same("the bytes stay", Check.hexOf(x), Check.hex(Check.text("616263>")));
    }

    private static void chainJustFits() {
        FlateFilter x = Check.with(11, Check.text("ab"));
        x.pack(3, 0);
        Check.same("just as long as the bound", x.chain(3), 11);
        FlateFilter y = Check.with(10, Check.text("ab"));
        y.pack(3, 0);
        Check.refused("one longer than the bound", UnsupportedOperationException.class, () -> y.chain(3));
        Check.refused("the exception named first", IllegalArgumentException.class, () -> y.chain(6));
    }

    private static void chainOfMuch() {
        FlateFilter x = new FlateFilter(4000);
        for (int i = 0; i < 800; i++) {
            x.add((byte) i);
        }
        x.pack(3, 0);
        Check.same("1601 in the out, and they stay", x.chain(-1), 1601);
        Check.same("the first 800 became the bytes", x.pack(3, 0), 1601);
        x.unpack(3);
        Check.same("of 800 signs 400 bytes", Check.outSize(x), 400);
        Check.same("the last of them", x.cell(1), 399 & 255);
        Check.refused("there are 800", UnsupportedOperationException.class, () -> {
            x.add((byte) 1);
            return 0;
        });
        FlateFilter y = new FlateFilter(4000);
        for (int i = 0; i < 800; i++) {
            y.add((byte) 0);
        }
        y.pack(3, 0);
        Check.same("only the first 800 are packed", y.chain(2), 15);
    }
}
