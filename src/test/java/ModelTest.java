import java.util.Random;

/** All promises: runs of calls at random, right and wrong ones, each answer compared with the model's. */
public final class ModelTest {
    private static final long[] MOSTS = {0, 1, 5, 12, 30, 80, 300, 900, 4000, 4000, 4000, -1, 9999};
    private static final String[] SIGNS = {"41 4f>", "9jqo^z9j~>", "z~>", "4>", "!!~>"};

    public static void main(String[] args) {
        Check.sentence("A call that throws changes nothing; all promises");
        int runs = args.length > 0 ? Integer.parseInt(args[0]) : 700;
        Random random = new Random(args.length > 1 ? Integer.parseInt(args[1]) : 23);
        for (int run = 0; run < runs; run++) {
            oneRun("run " + run, random);
        }
        Check.end();
    }

    private static void oneRun(String what, Random random) {
        long most = MOSTS[random.nextInt(MOSTS.length)];
        Run x = new Run(most);
        Model due = new Model(most);
        int sort = random.nextInt(9);
        while (x.callsLeft() > 70) {
            int call = random.nextInt(14);
            if (call < 3) {
                addSome(what, random, sort, x, due);
            } else {
                ask(what, random, call, x, due);
            }
        }
        x.outSums(what + ", its end", due.all());
        Check.same(what + ", differs at its end", x.differs() ? 1 : 0, due.differs() ? 1 : 0);
    }

    /** Bytes of a sort, or a stream that can be unpacked, some of it. */
    private static void addSome(String what, Random random, int sort, Run x, Model due) {
        byte[] some = Samples.of(random, sort, 25);
        switch (random.nextInt(6)) {
            case 0:
                some = Oracle.flate(some, random.nextInt(3));
                break;
            case 1:
                some = Oracle.dictionary(some);
                break;
            case 2:
                some = Oracle.runs(some);
                break;
            case 3:
                some = Check.text(SIGNS[random.nextInt(SIGNS.length)]);
                break;
            default:
                break;
        }
        for (byte b : some) {
            if (x.callsLeft() > 30) {
                same(what + " add", () -> {
                    x.add(b);
                    return 0;
                }, () -> {
                    due.add(b);
                    return 0;
                });
            }
        }
    }

    private static void ask(String what, Random random, int call, Run x, Model due) {
        int kind = random.nextInt(12) == 0 ? random.nextInt(12) - 4 : random.nextInt(5);
        int level = random.nextInt(6) - 1;
        int place = random.nextInt(4) == 0 ? random.nextInt(1000) - 3 : random.nextInt(12) - 2;
        int number = random.nextInt() & random.nextInt();
        int[] rows = {random.nextInt(3) == 0 ? 0 : random.nextInt(18) - 1, random.nextInt(6), 1 << random.nextInt(5),
            random.nextInt(5) == 0 ? random.nextInt(70) : random.nextInt(9)};
        switch (call) {
            case 3, 4 -> same(what + " pack " + kind + " " + level, () -> x.pack(kind, level), () -> due.pack(kind, level));
            case 5, 6 -> same(what + " unpack " + kind, () -> x.unpack(kind), () -> due.unpack(kind));
            case 7 -> same(what + " out " + place, () -> x.out(place), () -> due.out(place));
            case 8 -> same(what + " predictor", () -> x.predictor(rows[0], rows[1], rows[2], rows[3]),
                    () -> due.predictor(rows[0], rows[1], rows[2], rows[3]));
            case 9 -> same(what + " table " + number, () -> x.table(number), () -> due.table(number));
            case 10 -> same(what + " sum " + (level - 1), () -> x.sum(level - 1), () -> due.sum(level - 1));
            case 11 -> same(what + " differs", () -> x.differs() ? 1 : 0, () -> due.differs() ? 1 : 0);
            case 12 -> same(what + " chain " + (kind - 1), () -> x.chain(kind - 1), () -> due.chain(kind - 1));
            default -> same(what + " cell " + place, () -> x.cell(place), () -> due.cell(place));
        }
        same(what + " sum", () -> x.sum(1), () -> due.sum(1));
    }

    private static void same(String what, Check.Call got, Check.Call due) {
        Check.same(what, answer(got), answer(due));
    }

    private static String answer(Check.Call call) {
        try {
            return "" + call.answer();
        } catch (IllegalArgumentException | UnsupportedOperationException | ArrayIndexOutOfBoundsException e) {
            return "throws." + e.getClass().getSimpleName();
        }
    }
}
