import java.util.Arrays;

/** What the tests share: comparisons that are counted, and short ways to write bytes. */
final class Check {
    interface Call {
        long answer();
    }

    private static String sentence = "";
    private static int asked = 0;
    private static int wrong = 0;

    private Check() {
    }

    /** The words of the document that the comparisons from here on hold it to. */
    static void sentence(String words) {
        sentence = words;
    }

    static void same(String what, long got, long want) {
        asked++;
        if (got != want) {
            tell(what + " answered " + got + ", due is " + want);
        }
    }

    static void same(String what, String got, String want) {
        asked++;
        if (!got.equals(want)) {
            tell(what + " is " + got + ", due is " + want);
        }
    }

    static void yes(String what, boolean got) {
        same(what, got ? 1 : 0, 1);
    }

    static void no(String what, boolean got) {
        same(what, got ? 1 : 0, 0);
    }

    private static void tell(String what) {
        wrong++;
        System.out.println("\"" + sentence + "\": " + what);
    }

    /** The very class counts, and that the program threw it, not the machine below it. */
    static void refused(String what, Class<? extends RuntimeException> due, Call call) {
        try {
            same(what + " should have thrown; it", call.answer() + "", due.getSimpleName());
        } catch (RuntimeException e) {
            same(what, e.getClass().getName(), due.getName());
            String text = e.getMessage() == null ? "" : e.getMessage();
            no(what + " was thrown by the machine", text.startsWith("Index") || text.startsWith("arraycopy"));
        }
    }

    static void end() {
        if (wrong > 0 || asked == 0) {
            System.out.println(wrong + " of " + asked + " answers are not as due");
            System.exit(1);
        }
    }

    static String hex(byte[] bytes) {
        StringBuilder text = new StringBuilder();
        for (byte b : bytes) {
            text.append(Character.forDigit((b >> 4) & 15, 16)).append(Character.forDigit(b & 15, 16));
        }
        return text.toString();
    }

    static byte[] fromHex(String text) {
        String plain = text.replace(" ", "");
        byte[] bytes = new byte[plain.length() / 2];
        for (int i = 0; i < bytes.length; i++) {
            bytes[i] = (byte) Integer.parseInt(plain.substring(2 * i, 2 * i + 2), 16);
        }
        return bytes;
    }

    static byte[] text(String signs) {
        byte[] bytes = new byte[signs.length()];
        for (int i = 0; i < bytes.length; i++) {
            bytes[i] = (byte) signs.charAt(i);
        }
        return bytes;
    }

    static byte[] filled(int count, int value) {
        byte[] bytes = new byte[count];
        Arrays.fill(bytes, (byte) value);
        return bytes;
    }

    static byte[] bytes(int... values) {
        byte[] all = new byte[values.length];
        for (int i = 0; i < all.length; i++) {
            all[i] = (byte) values[i];
        }
        return all;
    }

    /** The bytes from .. to, both of them too. */
    static byte[] range(int from, int to) {
        byte[] all = new byte[to - from + 1];
        for (int i = 0; i < all.length; i++) {
            all[i] = (byte) (from + i);
        }
        return all;
    }

    static byte[] join(byte[]... parts) {
        int size = 0;
        for (byte[] part : parts) {
            size += part.length;
        }
        byte[] all = new byte[size];
        int place = 0;
        for (byte[] part : parts) {
            System.arraycopy(part, 0, all, place, part.length);
            place += part.length;
        }
        return all;
    }

    /** Unpacking of a stream: the answer, and the out in hexadecimal. */
    static void unpacks(String what, long most, int kind, byte[] stream, int answer, String out) {
        Run x = Run.with(most, stream);
        same(what, x.unpack(kind), answer);
        x.outIs(what, out);
    }

    static void packs(String what, int kind, int level, byte[] bytes, String out) {
        packs(what, kind, level, bytes, fromHex(out));
    }

    static void packs(String what, int kind, int level, byte[] bytes, byte[] out) {
        Run x = Run.with(bytes);
        same(what, x.pack(kind, level), out.length);
        x.outIs(what, out);
    }
}
