import java.util.ArrayList;
import java.util.Arrays;
import java.util.HashMap;
import java.util.List;
import java.util.Map;

/** The document's words on unpacking once more, in the slowest and plainest way, to compare with. */
final class Undo {
    /** Ends the unpacking at once, with the fault's place. */
    private static final class Fault extends RuntimeException {
        private static final long serialVersionUID = 1;
        private final int place;

        Fault(int place) {
            this.place = place;
        }
    }

    private final byte[] bytes;
    private final int most;
    private final boolean lowFirst;
    private int taken;
    private byte[] out = new byte[0];
    private int answer;
    private boolean differs;

    /** With a predictor's kind (0 for none), row and w. */
    Undo(byte[] bytes, int kind, int most, int... predictor) {
        this.bytes = bytes;
        this.most = most;
        lowFirst = kind != 1;
        int fault = -1;
        try {
            switch (kind) {
                case 0 -> flate();
                case 1 -> dictionary();
                case 2 -> runs();
                case 3 -> halves();
                default -> fives();
            }
        } catch (Fault e) {
            fault = e.place;
        }
        if (kind < 2 && predictor[0] != 0) {
            out = restored(predictor[0], predictor[1], predictor[2]);
        }
        answer = fault < 0 ? out.length : -1 - fault;
    }

    int answer() {
        return answer;
    }

    byte[] out() {
        return out;
    }

    boolean differs() {
        return differs;
    }

    private Fault fault() {
        return new Fault((taken - 1) / 8);
    }

    private void put(int value) {
        if (out.length == most) {
            throw fault();
        }
        out = Check.join(out, Check.bytes(value));
    }

    private int bit() {
        if (taken == 8 * bytes.length) {
            throw new Fault(bytes.length);
        }
        int shift = lowFirst ? taken % 8 : 7 - taken % 8;
        int bit = (bytes[taken / 8] >> shift) & 1;
        taken++;
        return bit;
    }

    private int number(int width) {
        int number = 0;
        for (int i = 0; i < width; i++) {
            number += bit() << (lowFirst ? i : width - 1 - i);
        }
        return number;
    }

    private int wholeByte() {
        while (taken % 8 != 0) {
            taken++;
        }
        return number(8);
    }

    private void flate() {
        if (wholeByte() != 120) {
            throw fault();
        }
        if (wholeByte() != 1) {
            throw fault();
        }
        boolean last;
        do {
            last = bit() == 1;
            int way = number(2);
            if (way == 3) {
                throw fault();
            }
            if (way == 0) {
                stored();
            } else if (way == 1) {
                int[] symbols = new int[288];
                Arrays.fill(symbols, 0, 144, 8);
                Arrays.fill(symbols, 144, 256, 9);
                Arrays.fill(symbols, 256, 280, 7);
                Arrays.fill(symbols, 280, 288, 8);
                int[] distances = new int[32];
                Arrays.fill(distances, 5);
                symbols(codes(symbols), codes(distances));
            } else {
                told();
            }
        } while (!last);
        long sum = 0;
        for (int i = 0; i < 4; i++) {
            sum = 256 * sum + wholeByte();
        }
        differs = sum != Run.adler(out);
    }

    private void stored() {
        int length = wholeByte();
        length += 256 * wholeByte();
        int other = wholeByte();
        other += 256 * wholeByte();
        if (length + other != 65535) {
            throw fault();
        }
        for (int i = 0; i < length; i++) {
            put(wholeByte());
        }
    }

    private static Map<String, Integer> codes(int[] lengths) {
        String[] all = Oracle.codes(lengths);
        Map<String, Integer> codes = new HashMap<>();
        for (int symbol = 0; symbol < all.length; symbol++) {
            if (lengths[symbol] > 0) {
                codes.put(all[symbol], symbol);
            }
        }
        return codes;
    }

    private int symbol(Map<String, Integer> codes) {
        String begun = "";
        while (!codes.containsKey(begun)) {
            boolean known = false;
            for (String code : codes.keySet()) {
                known |= code.startsWith(begun);
            }
            if (!known) {
                throw fault();
            }
            begun += bit();
        }
        return codes.get(begun);
    }

    private void symbols(Map<String, Integer> symbols, Map<String, Integer> distances) {
        int symbol = symbol(symbols);
        while (symbol != 256) {
            if (symbol < 256) {
                put(symbol);
            } else if (symbol > 285) {
                throw fault();
            } else {
                int k = symbol - 257;
                int length = Oracle.lengthOf(k) + number(k < 8 || k == 28 ? 0 : k / 4 - 1);
                int d = symbol(distances);
                if (d > 29) {
                    throw fault();
                }
                int distance = Oracle.distanceOf(d) + number(d < 4 ? 0 : d / 2 - 1);
                if (distance > out.length) {
                    throw fault();
                }
                for (int i = 0; i < length; i++) {
                    put(out[out.length - distance]);
                }
            }
            symbol = symbol(symbols);
        }
    }

    /** Whether the codes may not be: they are over-full, or have holes that are not let pass. */
    private static boolean wrong(int[] lengths, boolean mayBeNone) {
        int used = 0;
        int codes = 0;
        boolean one = false;
        for (int length : lengths) {
            if (length > 0) {
                used += 32768 >> length;
                codes++;
                one = length == 1;
            }
        }
        if (codes == 0) {
            return !mayBeNone;
        }
        return used != 32768 && !(codes == 1 && one);
    }

    private void told() {
        int a = number(5) + 257;
        int b = number(5) + 1;
        int c = number(4) + 4;
        int[] tellers = new int[19];
        for (int i = 0; i < c; i++) {
            tellers[Oracle.ORDER[i]] = number(3);
        }
        if (wrong(tellers, false)) {
            throw fault();
        }
        Map<String, Integer> codes = codes(tellers);
        List<Integer> all = new ArrayList<>();
        while (all.size() < a + b) {
            int teller = symbol(codes);
            int times = 1;
            int length = teller;
            if (teller == 16) {
                if (all.isEmpty()) {
                    throw fault();
                }
                times = 3 + number(2);
                length = all.get(all.size() - 1);
            } else if (teller > 16) {
                times = teller == 17 ? 3 + number(3) : 11 + number(7);
                length = 0;
            }
            for (int i = 0; i < times; i++) {
                all.add(length);
            }
            if (all.size() > a + b) {
                throw fault();
            }
        }
        int[] lengths = all.stream().mapToInt(i -> i).toArray();
        int[] symbols = Arrays.copyOf(lengths, a);
        int[] distances = Arrays.copyOfRange(lengths, a, a + b);
        if (wrong(symbols, false) || wrong(distances, true)) {
            throw fault();
        }
        symbols(codes(symbols), codes(distances));
    }

    private void dictionary() {
        List<byte[]> entries = new ArrayList<>();
        byte[] before = null;
        while (true) {
            int coming = 258 + entries.size();
            int code = number(coming >= 2047 ? 12 : coming >= 1023 ? 11 : coming >= 511 ? 10 : 9);
            if (code == 257) {
                return;
            }
            if (code == 256) {
                entries.clear();
                before = null;
                continue;
            }
            byte[] tells;
            if (code < 256) {
                tells = Check.bytes(code);
            } else if (code < coming) {
                tells = entries.get(code - 258);
            } else if (code == coming && before != null) {
                tells = Check.join(before, Check.bytes(before[0]));
            } else {
                throw fault();
            }
            if (before != null && coming <= 4095) {
                entries.add(Check.join(before, Check.bytes(tells[0])));
            }
            for (byte b : tells) {
                put(b);
            }
            before = tells;
        }
    }

    private void runs() {
        int n = wholeByte();
        while (n != 128) {
            int repeated = n > 128 ? wholeByte() : 0;
            for (int i = 0; i < (n < 128 ? n + 1 : 257 - n); i++) {
                put(n < 128 ? wholeByte() : repeated);
            }
            n = wholeByte();
        }
    }

    private void halves() {
        String signs = "";
        while (true) {
            char sign = (char) wholeByte();
            if (sign == '>') {
                if (signs.length() == 1) {
                    put(Integer.parseInt(signs + "0", 16));
                }
                return;
            }
            if (sign > 32) {
                if ("0123456789abcdefABCDEF".indexOf(sign) < 0) {
                    throw fault();
                }
                signs += sign;
                if (signs.length() == 2) {
                    put(Integer.parseInt(signs, 16));
                    signs = "";
                }
            }
        }
    }

    private void fives() {
        String signs = "";
        while (true) {
            char sign = (char) wholeByte();
            if (sign == '~') {
                if (signs.length() == 1) {
                    throw fault();
                }
                if (signs.length() > 1) {
                    four(signs + "u".repeat(5 - signs.length()), signs.length() - 1);
                }
                if (wholeByte() != '>') {
                    throw fault();
                }
                return;
            }
            if (sign == 'z' && signs.isEmpty()) {
                four("!!!!!", 4);
            } else if (sign > 117) {
                throw fault();
            } else if (sign > 32) {
                signs += sign;
                if (signs.length() == 5) {
                    four(signs, 4);
                    signs = "";
                }
            }
        }
    }

    private void four(String signs, int count) {
        long value = 0;
        for (char sign : signs.toCharArray()) {
            value = 85 * value + sign - 33;
        }
        if (value > 4294967295L) {
            throw fault();
        }
        for (int i = 0; i < count; i++) {
            put((int) (value >> (24 - 8 * i)) & 255);
        }
    }

    private byte[] restored(int kind, int row, int w) {
        List<Integer> all = new ArrayList<>();
        int place = 0;
        while (place < out.length) {
            int way = kind == 2 ? 1 : out[place++] & 255;
            int start = all.size();
            for (int i = 0; i < row && place < out.length; i++) {
                int a = i >= w ? all.get(start + i - w) : 0;
                int b = start > 0 ? all.get(start + i - row) : 0;
                int c = i >= w && start > 0 ? all.get(start + i - row - w) : 0;
                int p = a + b - c;
                int nearest = Math.abs(p - b) <= Math.abs(p - c) ? b : c;
                nearest = Math.abs(p - a) <= Math.abs(p - nearest) ? a : nearest;
                int guess = way == 1 ? a : way == 2 ? b : way == 3 ? (a + b) / 2 : way == 4 ? nearest : 0;
                all.add(((out[place++] & 255) + guess) & 255);
            }
        }
        byte[] restored = new byte[all.size()];
        for (int i = 0; i < restored.length; i++) {
            restored[i] = (byte) (int) all.get(i);
        }
        return restored;
    }
}
