import java.util.Arrays;

/** What the tests share: comparisons that are counted, and short ways to fill and read an object. */
final class Check {
    interface Call {
        long answer();
    }

    private static int wrong = 0;

    private Check() {
    }

    static void same(String what, long got, long want) {
        if (got != want) {
            wrong++;
            System.out.println(what + " answered " + got + ", due is " + want);
        }
    }

    static void same(String what, String got, String want) {
        if (!got.equals(want)) {
            wrong++;
            System.out.println(what + " is " + got + ", due is " + want);
        }
    }

    /** The very class counts, and that the class itself threw it, not the machine below it. */
    static void refused(String what, Class<? extends RuntimeException> due, Call call) {
        try {
            same(what + " should have thrown; it", call.answer() + "", due.getSimpleName());
        } catch (RuntimeException e) {
            same(what, e.getClass().getName(), due.getName());
            if (e.getMessage() == null || e.getMessage().startsWith("Index")) {
                wrong++;
                System.out.println(what + " was thrown by the machine: " + e.getMessage());
            }
        }
    }

    static void end() {
        if (wrong > 0) {
            System.out.println(wrong + " answers are not as due");
            System.exit(1);
        }
    }

    static FlateFilter with(long most, byte[] bytes) {
        FlateFilter x = new FlateFilter(most);
        for (byte b : bytes) {
            x.add(b);
        }
        return x;
    }

    static FlateFilter with(byte[] bytes) {
        return with(4000, bytes);
    }

    /** How many bytes the out has, found from its end, as no call tells it alone. */
    static int outSize(FlateFilter x) {
        int size = 0;
        while (size < 5000) {
            try {
                x.cell(size + 1);
            } catch (ArrayIndexOutOfBoundsException e) {
                return size;
            }
            size++;
        }
        return size;
    }

    static byte[] outOf(FlateFilter x) {
        byte[] all = new byte[outSize(x)];
        for (int i = 0; i < all.length; i++) {
            all[i] = x.out(i);
        }
        return all;
    }

    static String hexOf(FlateFilter x) {
        return hex(outOf(x));
    }

    static String hex(byte[] bytes) {
        StringBuilder text = new StringBuilder();
        for (byte b : bytes) {
            text.append(String.format("%02x", b & 255));
        }
        return text.toString();
    }

    static byte[] fromHex(String text) {
        String plain = text.replace(" ", "");
        byte[] bytes = new byte[plain.length() / 2];
        for (int i = 0; i < bytes.length; i++) {
            bytes[i] = (byte) Integer.parseInt(plain.substring(2 * i, 2 * i + 2), 16);
        }
        return bytes;
    }

    static byte[] text(String signs) {
        byte[] bytes = new byte[signs.length()];
        for (int i = 0; i < bytes.length; i++) {
            bytes[i] = (byte) signs.charAt(i);
        }
        return bytes;
    }

    static byte[] filled(int count, int value) {
        byte[] bytes = new byte[count];
        Arrays.fill(bytes, (byte) value);
        return bytes;
    }

    static byte[] bytes(int... values) {
        byte[] all = new byte[values.length];
        for (int i = 0; i < all.length; i++) {
            all[i] = (byte) values[i];
        }
        return all;
    }

    static byte[] join(byte[] one, byte[] other) {
        byte[] all = Arrays.copyOf(one, one.length + other.length);
        System.arraycopy(other, 0, all, one.length, other.length);
        return all;
    }

    /** Unpacking of a stream: the answer, then the out in hexadecimal. */
    static void unpacks(String what, long most, int kind, byte[] stream, int answer, String out) {
        FlateFilter x = with(most, stream);
        same(what, x.unpack(kind), answer);
        same(what + ", the out", hexOf(x), out);
    }

    static void packs(String what, int kind, int level, byte[] bytes, String out) {
        FlateFilter x = with(bytes);
        same(what, x.pack(kind, level), out.length() / 2);
        same(what + ", the out", hexOf(x), out);
    }
}
