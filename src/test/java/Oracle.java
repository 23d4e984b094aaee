import java.util.ArrayList;
import java.util.Arrays;
import java.util.HashMap;
import java.util.List;
import java.util.Map;
import java.util.TreeMap;
import java.util.TreeSet;

/** The document's words on packing once more, in the slowest and plainest way, to compare with. */
final class Oracle {
    static final int[] ORDER = {16, 17, 18, 0, 8, 7, 9, 6, 10, 5, 11, 4, 12, 3, 13, 2, 14, 1, 15};

    private Oracle() {
    }

    static byte[] flate(byte[] data, int level) {
        if (level == 3) {
            byte[] best = flate(data, 0);
            for (int i = 1; i < 3; i++) {
                byte[] other = flate(data, i);
                best = other.length < best.length ? other : best;
            }
            return best;
        }
        Bits to = Bits.flate().low(1, 1).low(level, 2);
        if (level == 0) {
            to.align().low(data.length, 16).low(65535 - data.length, 16);
            for (byte b : data) {
                to.low(b, 8);
            }
        } else {
            List<int[]> tokens = tokens(data);
            int[] symbols = new int[288];
            int[] distances = new int[32];
            if (level == 1) {
                for (int i = 0; i < 288; i++) {
                    symbols[i] = i < 144 ? 8 : i < 256 ? 9 : i < 280 ? 7 : 8;
                }
                Arrays.fill(distances, 5);
            } else {
                toldLengths(tokens, symbols, distances);
                tell(symbols, distances, to);
            }
            String[] symbolCodes = codes(symbols);
            String[] distanceCodes = codes(distances);
            for (int[] token : tokens) {
                if (token[1] == 0) {
                    to.raw(symbolCodes[token[0]]);
                } else {
                    int k = lengthSymbol(token[0]);
                    to.raw(symbolCodes[257 + k]).low(token[0] - lengthOf(k), k < 8 || k == 28 ? 0 : k / 4 - 1);
                    int d = distanceSymbol(token[1]);
                    to.raw(distanceCodes[d]).low(token[1] - distanceOf(d), d < 4 ? 0 : d / 2 - 1);
                }
            }
            to.raw(symbolCodes[256]);
        }
        return to.done(sum(data));
    }

    static long sum(byte[] data) {
        long a = 1;
        long b = 0;
        for (byte c : data) {
            a = (a + (c & 255)) % 65521;
            b = (b + a) % 65521;
        }
        return b * 65536 + a;
    }

    static int lengthOf(int k) {
        return k < 8 ? 3 + k : k == 28 ? 258 : 3 + (4 + k % 4) * (1 << (k / 4 - 1));
    }

    static int distanceOf(int k) {
        return k < 4 ? 1 + k : 1 + (2 + k % 2) * (1 << (k / 2 - 1));
    }

    static int lengthSymbol(int length) {
        int k = 28;
        while (lengthOf(k) > length) {
            k--;
        }
        return k;
    }

    static int distanceSymbol(int distance) {
        int k = 29;
        while (distanceOf(k) > distance) {
            k--;
        }
        return k;
    }

    /** Pairs of a length and a distance, or of a byte and 0. */
    static List<int[]> tokens(byte[] data) {
        List<int[]> all = new ArrayList<>();
        int place = 0;
        while (place < data.length) {
            int[] match = match(data, place);
            if (match[0] == 0 || match(data, place + 1)[0] > match[0]) {
                all.add(new int[] {data[place] & 255, 0});
                place++;
            } else {
                all.add(match);
                place += match[0];
            }
        }
        return all;
    }

    private static int[] match(byte[] data, int place) {
        int[] best = {0, 0};
        for (int distance = 1; distance <= place; distance++) {
            int length = 0;
            while (length < 258 && place + length < data.length
                    && data[place + length] == data[place + length - distance]) {
                length++;
            }
            if (length >= 3 && length > best[0]) {
                best = new int[] {length, distance};
            }
        }
        return best;
    }

    static void toldLengths(List<int[]> tokens, int[] symbols, int[] distances) {
        Map<Integer, Integer> symbolCounts = new HashMap<>();
        Map<Integer, Integer> distanceCounts = new HashMap<>();
        symbolCounts.put(256, 1);
        for (int[] token : tokens) {
            symbolCounts.merge(token[1] == 0 ? token[0] : 257 + lengthSymbol(token[0]), 1, Integer::sum);
            if (token[1] != 0) {
                distanceCounts.merge(distanceSymbol(token[1]), 1, Integer::sum);
            }
        }
        joinAll(symbolCounts, symbols);
        joinAll(distanceCounts, distances);
    }

    private record Group(int count, List<Integer> symbols) {
        int greatest() {
            return symbols.stream().max(Integer::compare).orElse(-1);
        }
    }

    private static void joinAll(Map<Integer, Integer> counts, int[] lengths) {
        List<Group> groups = new ArrayList<>();
        counts.forEach((symbol, count) -> groups.add(new Group(count, List.of(symbol))));
        if (groups.size() == 1) {
            lengths[groups.get(0).greatest()] = 1;
        }
        while (groups.size() > 1) {
            groups.sort((x, y) -> x.count != y.count ? x.count - y.count : y.greatest() - x.greatest());
            Group one = groups.remove(0);
            Group other = groups.remove(0);
            List<Integer> both = new ArrayList<>(one.symbols);
            both.addAll(other.symbols);
            both.forEach(symbol -> lengths[symbol]++);
            groups.add(new Group(one.count + other.count, both));
        }
    }

    static String[] codes(int[] lengths) {
        String[] all = new String[lengths.length];
        int code = 0;
        for (int length = 1; length <= 15; length++) {
            code *= 2;
            for (int symbol = 0; symbol < lengths.length; symbol++) {
                if (lengths[symbol] == length) {
                    String bits = Integer.toBinaryString(code);
                    all[symbol] = "0".repeat(Math.max(0, length - bits.length())) + bits;
                    code++;
                }
            }
        }
        return all;
    }

    private static void tell(int[] symbols, int[] distances, Bits to) {
        int a = 288;
        while (a > 257 && symbols[a - 1] == 0) {
            a--;
        }
        int b = 32;
        while (b > 1 && distances[b - 1] == 0) {
            b--;
        }
        int[] lengths = Arrays.copyOf(symbols, a + b);
        System.arraycopy(distances, 0, lengths, a, b);
        List<int[]> told = new ArrayList<>();
        for (int i = 0; i < lengths.length;) {
            int end = i;
            while (end < lengths.length && lengths[end] == lengths[i]) {
                end++;
            }
            int run = end - i;
            int[] one = {lengths[i], 0, 0, 1};
            if (lengths[i] == 0 && run >= 11) {
                run = Math.min(run, 138);
                one = new int[] {18, run - 11, 7, run};
            } else if (lengths[i] == 0 && run >= 3) {
                one = new int[] {17, run - 3, 3, run};
            } else if (lengths[i] != 0 && run >= 3 && i > 0 && lengths[i - 1] == lengths[i]) {
                run = Math.min(run, 6);
                one = new int[] {16, run - 3, 2, run};
            }
            told.add(one);
            i += one[3];
        }
        int[] tellers = tellerLengths(told);
        int c = 19;
        while (c > 4 && tellers[ORDER[c - 1]] == 0) {
            c--;
        }
        to.low(a - 257, 5).low(b - 1, 5).low(c - 4, 4);
        for (int i = 0; i < c; i++) {
            to.low(tellers[ORDER[i]], 3);
        }
        String[] codes = codes(tellers);
        for (int[] one : told) {
            to.raw(codes[one[0]]).low(one[1], one[2]);
        }
    }

    static int[] tellerLengths(List<int[]> told) {
        TreeSet<Integer> different = new TreeSet<>();
        told.forEach(one -> different.add(one[0]));
        int n = different.size();
        int k = 0;
        while ((1 << k) < n) {
            k++;
        }
        int[] lengths = new int[19];
        int place = 0;
        for (int teller : different) {
            lengths[teller] = n == 1 ? 1 : place < (1 << k) - n ? k - 1 : k;
            place++;
        }
        return lengths;
    }

    static byte[] dictionary(byte[] data) {
        Bits to = Bits.dictionary().high(256, 9);
        Map<String, Integer> entries = new TreeMap<>();
        int entry = 258;
        String before = null;
        int place = 0;
        StringBuilder all = new StringBuilder();
        for (byte b : data) {
            all.append((char) (b & 255));
        }
        while (place < data.length) {
            if (before != null) {
                entries.put(before + all.charAt(place), entry);
            }
            int length = 1;
            for (int longer = 2; place + longer <= data.length; longer++) {
                if (entries.containsKey(all.substring(place, place + longer))) {
                    length = longer;
                }
            }
            String piece = all.substring(place, place + length);
            to.high(length == 1 ? piece.charAt(0) : entries.get(piece), widthFor(entry));
            if (before != null) {
                entry++;
            }
            before = piece;
            place += length;
        }
        return to.high(257, widthFor(entry)).done();
    }

    static byte[] runs(byte[] data) {
        byte[] all = new byte[0];
        int place = 0;
        while (place < data.length) {
            int end = place + 1;
            while (end < data.length && end - place < 128 && data[end] == data[place]) {
                end++;
            }
            if (end - place > 1) {
                all = Check.join(all, Check.bytes(257 - (end - place), data[place]));
            } else {
                while (end < data.length && end - place < 128 && (end == data.length - 1 || data[end] != data[end + 1])) {
                    end++;
                }
                all = Check.join(all, Check.bytes(end - place - 1), Arrays.copyOfRange(data, place, end));
            }
            place = end;
        }
        return Check.join(all, Check.bytes(128));
    }

    static byte[] halves(byte[] data) {
        return Check.text(Check.hex(data).toUpperCase() + ">");
    }

    static byte[] fives(byte[] data) {
        StringBuilder all = new StringBuilder();
        for (int i = 0; i < data.length; i += 4) {
            int count = Math.min(4, data.length - i);
            long value = Long.parseLong(Check.hex(Arrays.copyOf(Arrays.copyOfRange(data, i, i + count), 4)), 16);
            String signs = "";
            for (int k = 0; k < 5; k++) {
                signs = (char) (33 + value % 85) + signs;
                value /= 85;
            }
            all.append(count == 4 && signs.equals("!!!!!") ? "z" : signs.substring(0, count + 1));
        }
        return Check.text(all + "~>");
    }

    private static int widthFor(int entry) {
        return entry >= 2047 ? 12 : entry >= 1023 ? 11 : entry >= 511 ? 10 : 9;
    }

    static byte[] predicted(byte[] data, int kind, int row, int w) {
        byte[] all = new byte[0];
        for (int start = 0; start < data.length; start += row) {
            int end = Math.min(data.length, start + row);
            if (kind == 2) {
                all = Check.join(all, filtered(data, start, end, new int[] {1, row, w}));
                continue;
            }
            int best = kind - 10;
            if (kind == 15) {
                best = 0;
                for (int way = 1; way <= 4; way++) {
                    if (cost(filtered(data, start, end, new int[] {way, row, w}))
                            < cost(filtered(data, start, end, new int[] {best, row, w}))) {
                        best = way;
                    }
                }
            }
            all = Check.join(all, Check.bytes(best));
            all = Check.join(all, filtered(data, start, end, new int[] {best, row, w}));
        }
        return all;
    }

    private static int cost(byte[] row) {
        int cost = 0;
        for (byte b : row) {
            cost += Math.abs(b);
        }
        return cost;
    }

    private static byte[] filtered(byte[] data, int start, int end, int[] how) {
        int row = how[1];
        int w = how[2];
        byte[] all = new byte[end - start];
        for (int i = start; i < end; i++) {
            int a = i - w >= start ? data[i - w] & 255 : 0;
            int b = start > 0 ? data[i - row] & 255 : 0;
            int c = i - w >= start && start > 0 ? data[i - row - w] & 255 : 0;
            int p = a + b - c;
            int nearest = c;
            if (Math.abs(p - b) <= Math.abs(p - nearest)) {
                nearest = b;
            }
            if (Math.abs(p - a) <= Math.abs(p - nearest)) {
                nearest = a;
            }
            int[] guesses = {0, a, b, (a + b) / 2, nearest};
            all[i - start] = (byte) (data[i] - guesses[how[0]]);
        }
        return all;
    }
}
