import java.lang.reflect.Constructor;
import java.lang.reflect.Field;
import java.lang.reflect.Method;
import java.lang.reflect.Modifier;
import java.util.TreeSet;

/** Promises 1, 2, 5, 11 and the public face. */
public final class ObjectTest {
    public static void main(String[] args) {
        newObject();
        bound();
        addUpToTheEnd();
        outAndCell();
        face();
        Check.end();
    }

    private static void newObject() {
        FlateFilter x = new FlateFilter(10);
        Check.same("new: out bytes", Check.outSize(x), 0);
        Check.same("new: differs", x.differs() ? 1 : 0, 0);
        Check.same("new: sum 0", x.sum(0), 1);
        Check.same("new: sum 1", x.sum(1), 0);
        Check.same("new: no bytes", x.pack(2, 0), 1);
        FlateFilter y = Check.with(Check.bytes(1, 2, 3));
        y.pack(0, 0);
        Check.same("new: no predictor", Check.hexOf(y), "7801010300fcff010203000d0007");
    }

    private static void bound() {
        long[] mosts = {Long.MIN_VALUE, -1, 0, 1, 3999, 4000, 4001, Long.MAX_VALUE, 1L << 32};
        int[] bounds = {0, 0, 0, 1, 3999, 4000, 4000, 4000, 4000};
        for (int i = 0; i < mosts.length; i++) {
            FlateFilter x = new FlateFilter(mosts[i]);
            for (int k = 0; k < 40; k++) {
                x.add((byte) 129);
                x.add((byte) 7);
            }
            x.unpack(2);
            Check.same("bound of " + mosts[i], Check.outSize(x), bounds[i]);
        }
    }

    private static void addUpToTheEnd() {
        FlateFilter x = new FlateFilter(4000);
        for (int i = 0; i < 800; i++) {
            x.add((byte) i);
        }
        Check.refused("the 801st byte", UnsupportedOperationException.class, () -> {
            x.add((byte) 99);
            return 0;
        });
        Check.same("800 bytes in halves", x.pack(3, 0), 1601);
        Check.same("the first one", x.out(0) * 256 + x.out(1), '0' * 256 + '0');
        Check.same("the last one, 799", x.cell(3) * 256 + x.cell(2), '1' * 256 + 'F');
    }

    private static void outAndCell() {
        FlateFilter x = Check.with(Check.text("7F80FF>"));
        Check.refused("out before", ArrayIndexOutOfBoundsException.class, () -> x.out(0));
        Check.refused("cell before", ArrayIndexOutOfBoundsException.class, () -> x.cell(1));
        x.unpack(3);
        Check.same("out 0", x.out(0), 127);
        Check.same("out 1", x.out(1), -128);
        Check.same("out 2", x.out(2), -1);
        Check.same("cell 1", x.cell(1), 255);
        Check.same("cell 2", x.cell(2), 128);
        Check.same("cell 3", x.cell(3), 127);
        for (int i : new int[] {-1, 3, 4, 4000, Integer.MAX_VALUE, Integer.MIN_VALUE}) {
            Check.refused("out " + i, ArrayIndexOutOfBoundsException.class, () -> x.out(i));
        }
        for (int i : new int[] {-1, 0, 4, 4000, Integer.MAX_VALUE, Integer.MIN_VALUE}) {
            Check.refused("cell " + i, ArrayIndexOutOfBoundsException.class, () -> x.cell(i));
        }
        Check.same("the out is as it was", Check.hexOf(x), "7f80ff");
    }

    private static void face() {
        TreeSet<String> open = new TreeSet<>();
        for (Method method : FlateFilter.class.getDeclaredMethods()) {
            if (!Modifier.isPrivate(method.getModifiers()) && !method.isSynthetic()) {
                open.add(method.getName());
            }
        }
        for (Field field : FlateFilter.class.getDeclaredFields()) {
            if (!Modifier.isPrivate(field.getModifiers()) && !field.isSynthetic()) {
                open.add(field.getName());
            }
        }
        for (Constructor<?> made : FlateFilter.class.getDeclaredConstructors()) {
            open.add("new" + made.getParameterCount());
        }
        Check.same("the face", open.toString(),
                "[add, cell, chain, differs, new1, out, pack, predictor, sum, table, unpack]");
    }
}
