import java.lang.reflect.Constructor;
import java.lang.reflect.Field;
import java.lang.reflect.Method;
import java.lang.reflect.Modifier;
import java.util.TreeSet;

/** Promises 1, 2, 5, 11, the public face, and the calls that an object is used for. */
public final class ObjectTest {
    public static void main(String[] args) {
        noBytes();
        noOut();
        noPredictor();
        bound();
        boundOfPacking();
        addBehindTheOthers();
        addWhenThereAre800();
        out();
        outRefused();
        cell();
        cellRefused();
        emptyAgain();
        calls();
        face();
        Check.end();
    }

    private static void noBytes() {
        Check.sentence("No bytes");
        Run x = new Run(100);
        Check.same("halves", x.pack(3, 0), 1);
        x.outIs("halves", Check.text(">"));
        Check.same("runs", x.pack(2, 0), 1);
        Check.same("FLATE is cut before its first byte", new Run(100).unpack(0), -1);
    }

    private static void noOut() {
        Check.sentence("no out");
        Run x = new Run(100);
        Check.refused("out 0", ArrayIndexOutOfBoundsException.class, () -> x.out(0));
        Check.refused("cell 1", ArrayIndexOutOfBoundsException.class, () -> x.cell(1));
        Check.same("its sum", x.sum(0), 1);
        Check.same("its remainder", x.sum(1), 0);
        Check.no("nothing was unpacked", x.differs());
        Check.same("it becomes the bytes", x.chain(-1), 0);
    }

    private static void noPredictor() {
        Check.sentence("no predictor");
        Check.packs("level 0", 0, 0, Check.bytes(1, 2, 3), "7801010300fcff010203000d0007");
        Check.unpacks("level 0", 100, 0, Check.fromHex("7801010300fcff010203000d0007"), 3, "010203");
    }

    /** 32 runs of 128 would be 4096 bytes. */
    private static byte[] muchMore() {
        byte[] runs = new byte[65];
        for (int i = 0; i < 64; i += 2) {
            runs[i] = (byte) 129;
            runs[i + 1] = (byte) i;
        }
        runs[64] = (byte) 128;
        return runs;
    }

    private static void bound() {
        Check.sentence("a bound (cut to 0 .. 4000)");
        long[] mosts = {Long.MIN_VALUE, 5 - (1L << 32), Integer.MIN_VALUE, -4000, -1, 0, 1, 2, 128, 129, 3999, 4000,
            4001, Integer.MAX_VALUE, 1L << 32, (1L << 32) + 5, Long.MAX_VALUE};
        int[] bounds = {0, 0, 0, 0, 0, 0, 1, 2, 128, 129, 3999, 4000, 4000, 4000, 4000, 4000, 4000};
        for (int i = 0; i < mosts.length; i++) {
            Run x = Run.with(mosts[i], muchMore());
            Check.same("a fault of " + mosts[i], x.unpack(2), -1 - (2 * (bounds[i] / 128) + 1));
            Check.same("the out of " + mosts[i], x.outSize(), bounds[i]);
        }
    }

    private static void boundOfPacking() {
        Check.sentence("a bound (cut to 0 .. 4000)");
        for (long most : new long[] {Long.MIN_VALUE, -1, 0}) {
            Run x = new Run(most);
            Check.refused("one byte beyond " + most, UnsupportedOperationException.class, () -> x.pack(2, 0));
        }
        Check.same("one byte", new Run(1).pack(2, 0), 1);
        // 1000 bytes can't be collected, so that packing comes near to 4000 nowhere: 800 in halves are 1601.
        Run most = full(Long.MAX_VALUE);
        Check.same("800 in halves", most.pack(3, 0), 1601);
    }

    /** An object with 800 bytes, of which no more than a few were added. */
    private static Run full(long most) {
        Run x = Run.with(most, muchMore());
        x.unpack(2);
        x.chain(-1);
        return x;
    }

    private static void addBehindTheOthers() {
        Check.sentence("A byte behind the others.");
        Run x = new Run(100);
        int[] values = {0, 1, -1, 127, -128};
        for (int value : values) {
            x.add(value);
        }
        x.pack(3, 0);
        x.outIs("five", Check.text("0001FF7F80>"));
        x.add(65);
        x.pack(3, 0);
        x.outIs("packing leaves them, one more", Check.text("0001FF7F8041>"));
        x.chain(-1);
        x.add(66);
        x.pack(3, 0);
        x.outIs("behind what became the bytes", Check.text("303030314646374638303431" + "3E" + "42>"));
    }

    private static void addWhenThereAre800() {
        Check.sentence("UnsupportedOperationException when there are 800.");
        // Six runs of 128 and one of 31 are 799.
        byte[] runs = Check.bytes(129, 1, 129, 2, 129, 3, 129, 4, 129, 5, 129, 6, 226, 7, 128);
        Run x = Run.with(runs);
        Check.same("799", x.unpack(2), 799);
        x.chain(-1);
        x.add(8);
        refuseAdd("the 801st", x);
        refuseAdd("it again", x);
        Check.same("800 in halves", x.pack(3, 0), 1601);
        Check.same("the last one", x.cell(3) * 256 + x.cell(2), '0' * 256 + '8');
        Check.same("the one before", x.cell(5) * 256 + x.cell(4), '0' * 256 + '7');
        Run y = full(4000);
        refuseAdd("behind the first 800 of 4000", y);
        y.unpack(0);
        y.chain(-1);
        y.add(9);
        y.pack(3, 0);
        y.outIs("bytes that went leave room", Check.text("09>"));
    }

    private static void refuseAdd(String what, Run x) {
        Check.refused(what, UnsupportedOperationException.class, () -> {
            x.add(99);
            return 0;
        });
    }

    private static void out() {
        Check.sentence("A byte of the out.");
        Run x = Run.with(Check.text("007F80FF>"));
        x.unpack(3);
        Check.same("the first", x.out(0), 0);
        Check.same("127", x.out(1), 127);
        Check.same("128", x.out(2), -128);
        Check.same("the last", x.out(3), -1);
        Run y = Run.with(muchMore());
        y.unpack(2);
        Check.same("the last of 4000", y.out(3999), 62);
        Check.same("the last of a run", y.out(127), 0);
        Check.same("the first of the next", y.out(128), 2);
    }

    private static void outRefused() {
        Check.sentence("A byte of the out. ArrayIndexOutOfBoundsException.");
        Run x = Run.with(Check.text("007F80FF>"));
        Check.refused("before there is an out", ArrayIndexOutOfBoundsException.class, () -> x.out(0));
        x.unpack(3);
        for (int i : new int[] {-1, -4, 4, 5, 9, 3999, 4000, Integer.MAX_VALUE, Integer.MIN_VALUE}) {
            Check.refused("out " + i, ArrayIndexOutOfBoundsException.class, () -> x.out(i));
        }
        x.outIs("it stays", "007f80ff");
        Run y = Run.with(muchMore());
        y.unpack(2);
        Check.refused("beyond 4000", ArrayIndexOutOfBoundsException.class, () -> y.out(4000));
    }

    private static void cell() {
        Check.sentence("The byte so far back from the out's end (1 the last one), 0 .. 255.");
        Run x = Run.with(Check.text("007F80FF>"));
        x.unpack(3);
        Check.same("1", x.cell(1), 255);
        Check.same("2", x.cell(2), 128);
        Check.same("3", x.cell(3), 127);
        Check.same("4, the first", x.cell(4), 0);
        Run y = Run.with(muchMore());
        y.unpack(2);
        Check.same("the first of 4000", y.cell(4000), 0);
        Check.same("the last of 4000", y.cell(1), 62);
        Check.same("the last of the first run", y.cell(4000 - 127), 0);
        Check.same("the first of the second", y.cell(4000 - 128), 2);
    }

    private static void cellRefused() {
        Check.sentence("The byte so far back from the out's end. ArrayIndexOutOfBoundsException.");
        Run x = Run.with(Check.text("007F80FF>"));
        Check.refused("before there is an out", ArrayIndexOutOfBoundsException.class, () -> x.cell(1));
        x.unpack(3);
        for (int back : new int[] {0, -1, -4, 5, 6, 9, 4000, Integer.MAX_VALUE, Integer.MIN_VALUE}) {
            Check.refused("cell " + back, ArrayIndexOutOfBoundsException.class, () -> x.cell(back));
        }
        x.outIs("it stays", "007f80ff");
        Run y = Run.with(muchMore());
        y.unpack(2);
        Check.refused("beyond 4000", ArrayIndexOutOfBoundsException.class, () -> y.cell(4001));
    }

    /** A shorter out leaves nothing to be seen of the longer one before it. */
    private static void emptyAgain() {
        Check.sentence("A byte of the out. ArrayIndexOutOfBoundsException.");
        Run x = Run.with(Check.text("4142>"));
        Check.same("two", x.unpack(3), 2);
        Check.same("none by FLATE", x.unpack(0), -1);
        Check.refused("out 0", ArrayIndexOutOfBoundsException.class, () -> x.out(0));
        Check.refused("cell 1", ArrayIndexOutOfBoundsException.class, () -> x.cell(1));
    }

    private static void calls() {
        Check.sentence("An object is used for at most 512 calls after it has been made");
        Run x = new Run(4000);
        for (int i = 0; i < 500; i++) {
            x.add(i);
        }
        Check.same("the 501st", x.pack(3, 0), 1001);
        Check.same("the 502nd", x.chain(-1), 1001);
        Check.same("the 503rd", x.unpack(3), -1 - 800);
        Check.same("the 504th", x.cell(1), 399 & 255);
        Check.same("the 505th", x.chain(3), 801);
        while (x.callsLeft() > 1) {
            Check.same("one more", x.pack(0, 3) > 0 ? 1 : 0, 1);
        }
        Check.same("the 512th", x.pack(3, 0), 801);
    }

    private static void face() {
        Check.sentence("The public face");
        TreeSet<String> open = new TreeSet<>();
        for (Method method : FlateFilter.class.getDeclaredMethods()) {
            if (!Modifier.isPrivate(method.getModifiers()) && !method.isSynthetic()) {
                open.add(method.toString().replace("java.lang.", "").replace("FlateFilter.", ""));
            }
        }
        for (Field field : FlateFilter.class.getDeclaredFields()) {
            if (!Modifier.isPrivate(field.getModifiers()) && !field.isSynthetic()) {
                open.add(field.toString());
            }
        }
        for (Constructor<?> made : FlateFilter.class.getDeclaredConstructors()) {
            open.add(made.toString());
        }
        Check.same("all that can be seen", open.toString(), "["
                + "public FlateFilter(long), "
                + "public boolean differs(), "
                + "public byte out(int) throws ArrayIndexOutOfBoundsException, "
                + "public int cell(int) throws ArrayIndexOutOfBoundsException, "
                + "public int chain(int) throws IllegalArgumentException,UnsupportedOperationException, "
                + "public int pack(int,int) throws IllegalArgumentException,UnsupportedOperationException, "
                + "public int predictor(int,int,int,int), "
                + "public int table(int), "
                + "public int unpack(int) throws IllegalArgumentException, "
                + "public long sum(int) throws IllegalArgumentException, "
                + "public void add(byte) throws UnsupportedOperationException]");
        Check.yes("the class is public and final", Modifier.isPublic(FlateFilter.class.getModifiers())
                && Modifier.isFinal(FlateFilter.class.getModifiers()));
    }
}
