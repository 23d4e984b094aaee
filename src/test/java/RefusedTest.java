/** "A call that throws changes nothing", and which exception it is when several fit. */
public final class RefusedTest {
    // One byte, a, and a sum that differs.
    private static final byte[] STREAM = Check.fromHex("78014b040000620063");

    public static void main(String[] args) {
        kinds();
        levels();
        places();
        longerThanTheBound();
        chainsLongerThanTheBound();
        fullOfBytes();
        namedFirst();
        Check.end();
    }

    private static final Class<IllegalArgumentException> ARGUMENT = IllegalArgumentException.class;
    private static final Class<UnsupportedOperationException> UNSUPPORTED = UnsupportedOperationException.class;
    private static final Class<ArrayIndexOutOfBoundsException> PLACE = ArrayIndexOutOfBoundsException.class;

    /** Nine bytes, an out, a predictor, and a sum that differed: all that an object has. */
    private static Run filled(long most) {
        Run x = Run.with(most, STREAM);
        x.predictor(12, 1, 8, 2);
        x.predictor(2, 1, 8, 3);
        x.unpack(0);
        return x;
    }

    /** The same as of an object that was not asked; looking at it changes it, so this comes last. */
    private static void stays(String what, Run asked, Run other) {
        Check.same(what + ": the out stays", asked.outHex(), other.outHex());
        Check.same(what + ": differs stays", asked.differs() ? 1 : 0, other.differs() ? 1 : 0);
        Check.same(what + ": the sum stays", asked.sum(0), other.sum(0));
        Check.same(what + ": the bytes stay", asked.pack(2, 0), other.pack(2, 0));
        Check.same(what + ": the bytes stay", asked.outHex(), other.outHex());
        Check.same(what + ": the predictor stays", asked.pack(1, 0), other.pack(1, 0));
        Check.same(what + ": the predictor stays", asked.outHex(), other.outHex());
    }

    private static void kinds() {
        Check.sentence("A call that throws changes nothing");
        Run x = filled(4000);
        for (int kind : new int[] {-1, 5, 6, 256, Integer.MIN_VALUE, Integer.MAX_VALUE}) {
            Check.refused("pack " + kind, ARGUMENT, () -> x.pack(kind, 0));
            Check.refused("unpack " + kind, ARGUMENT, () -> x.unpack(kind));
        }
        for (int kind : new int[] {-2, 5, 6, 256, Integer.MIN_VALUE, Integer.MAX_VALUE}) {
            Check.refused("chain " + kind, ARGUMENT, () -> x.chain(kind));
        }
        for (int kind : new int[] {-1, 2, 3, Integer.MIN_VALUE, Integer.MAX_VALUE}) {
            Check.refused("sum " + kind, ARGUMENT, () -> x.sum(kind));
        }
        Check.yes("it differs, as it did", x.differs());
        x.outIs("a, as it was", "61");
        stays("wrong kinds", x, filled(4000));
    }

    private static void levels() {
        Check.sentence("A call that throws changes nothing");
        Run x = filled(4000);
        for (int level : new int[] {-1, 4, 5, Integer.MIN_VALUE, Integer.MAX_VALUE}) {
            Check.refused("level " + level, ARGUMENT, () -> x.pack(0, level));
        }
        stays("wrong levels", x, filled(4000));
    }

    private static void places() {
        Check.sentence("A call that throws changes nothing");
        Run x = filled(4000);
        for (int i : new int[] {-1, 1, 2, 4000, Integer.MIN_VALUE, Integer.MAX_VALUE}) {
            Check.refused("out " + i, PLACE, () -> x.out(i));
        }
        for (int back : new int[] {-1, 0, 2, 4000, Integer.MIN_VALUE, Integer.MAX_VALUE}) {
            Check.refused("cell " + back, PLACE, () -> x.cell(back));
        }
        stays("wrong places", x, filled(4000));
    }

    private static void longerThanTheBound() {
        Check.sentence("UnsupportedOperationException when it would be longer than the bound. "
                + "A call that throws changes nothing");
        // Nine bytes: by FLATE more than 12, by the dictionary 13, in runs 12, halves 19, fives 14.
        Run x = filled(11);
        for (int level = 0; level <= 3; level++) {
            int asked = level;
            Check.refused("FLATE " + level, UNSUPPORTED, () -> x.pack(0, asked));
        }
        for (int kind = 1; kind <= 4; kind++) {
            int asked = kind;
            Check.refused("kind " + kind, UNSUPPORTED, () -> x.pack(asked, 0));
        }
        Check.yes("it differs, as it did", x.differs());
        x.outIs("a, as it was", "61");
        Check.same("the bytes stay", x.unpack(0), 1);
        x.chain(-1);
        Check.same("the bytes went for a", x.pack(3, 0), 3);
        Run y = filled(12);
        Check.refused("FLATE", UNSUPPORTED, () -> y.pack(0, 3));
        Check.refused("the dictionary", UNSUPPORTED, () -> y.pack(1, 0));
        Check.same("runs fit", y.pack(2, 0), 12);
        y.outIs("the bytes are as they were", "03 78014b04 ff 00 02 620063 80");
    }

    private static void chainsLongerThanTheBound() {
        Check.sentence("UnsupportedOperationException when it would be longer than the bound "
                + "(then the bytes are as they were)");
        // The bytes are 4142>, the out AB, which is longer by every kind.
        for (int kind = 0; kind <= 4; kind++) {
            int asked = kind;
            Run x = Run.with(2, Check.text("4142>"));
            x.predictor(2, 1, 8, 1);
            x.unpack(3);
            Check.refused("chain " + kind, UNSUPPORTED, () -> x.chain(asked));
            x.outIs("the out is as it was", "4142");
            Check.same("the bytes are as they were", x.unpack(3), 2);
            x.outIs("unpacked again", "4142");
        }
    }

    private static void fullOfBytes() {
        Check.sentence("UnsupportedOperationException when there are 800. A call that throws changes nothing");
        Run x = full();
        Check.refused("add", UNSUPPORTED, () -> {
            x.add(1);
            return 0;
        });
        Run y = full();
        Check.same("the out stays", x.outSize(), y.outSize());
        Check.same("the sum stays", x.sum(1), y.sum(1));
        Check.same("the bytes stay", x.pack(3, 0), y.pack(3, 0));
        Check.same("the bytes stay", x.sum(1), y.sum(1));
        Check.same("the predictor stays", x.pack(1, 0), y.pack(1, 0));
        Check.same("the predictor stays", x.sum(1), y.sum(1));
    }

    private static Run full() {
        Run x = Run.with(Check.bytes(129, 1, 129, 2, 129, 3, 129, 4, 129, 5, 129, 6, 129, 7, 128));
        x.predictor(11, 1, 8, 5);
        x.unpack(2);
        x.chain(-1);
        return x;
    }

    private static void namedFirst() {
        Check.sentence("where several exceptions that a call names fit, it is the one that it names first");
        Run x = Run.with(3, Check.text("4142>"));
        x.unpack(3);
        Check.refused("pack: it is longer", UNSUPPORTED, () -> x.pack(0, 3));
        Check.refused("pack: a wrong level, and it is longer", ARGUMENT, () -> x.pack(0, 4));
        Check.refused("pack: a wrong level, and it is longer", ARGUMENT, () -> x.pack(0, -1));
        Check.refused("pack: a wrong kind, and it is longer", ARGUMENT, () -> x.pack(5, 0));
        Check.refused("pack: a wrong kind and level, and it is longer", ARGUMENT, () -> x.pack(-1, 9));
        Check.refused("chain: it is longer", UNSUPPORTED, () -> x.chain(3));
        Check.refused("chain: a wrong kind, and it is longer", ARGUMENT, () -> x.chain(5));
        Check.refused("chain: a wrong kind, and it is longer", ARGUMENT, () -> x.chain(-2));
        Run none = new Run(0);
        Check.refused("bound 0, chain: it is longer", UNSUPPORTED, () -> none.chain(2));
        Check.refused("bound 0, chain: a wrong kind", ARGUMENT, () -> none.chain(6));
        Check.same("bound 0, chain -1", none.chain(-1), 0);
    }
}
