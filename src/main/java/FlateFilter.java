import java.util.Arrays;

/** Packs and unpacks collected bytes by five kinds of streams; what comes of it is the out. */
public final class FlateFilter {
    private static final int MOST_BYTES = 800;
    private static final int MOST_BOUND = 4000;
    // A row of one byte has one more byte before it, so a predictor doubles the bytes at most.
    private static final int MOST_PREDICTED = 2 * MOST_BYTES;

    private static final int MOVE_ONLY = -1;
    private static final int FLATE = 0;
    private static final int DICTIONARY = 1;
    private static final int RUNS = 2;
    private static final int HALVES = 3;
    private static final int FIVES = 4;

    private static final int SUM_MODULUS = 65521;
    private static final int POLYNOMIAL = 0xedb88320;

    private final int bound;
    private final byte[] bytes;
    private int byteCount;
    private byte[] result;
    private int resultCount;
    // Calls write here and swap at their end, so that one that throws leaves the out alone.
    private byte[] spare;
    private final byte[] predicted;
    private boolean sumDiffered;
    private final Predictor rows;
    private final Source source;
    private final Sink sink;
    private final FlatePacker flatePacker;
    private final FlateUnpacker flateUnpacker;
    private final Dictionary dictionary;

    public FlateFilter(long most) {
        bound = (int) Math.max(0L, Math.min(most, (long) MOST_BOUND));
        bytes = new byte[MOST_BYTES];
        result = new byte[bound];
        spare = new byte[bound];
        predicted = new byte[MOST_PREDICTED];
        rows = new Predictor();
        source = new Source();
        sink = new Sink();
        // Packing and unpacking never run at once, so they share the rows of the codes.
        Codes symbols = new Codes(FlateCodes.SYMBOLS);
        Codes distances = new Codes(FlateCodes.DISTANCES);
        Codes tellers = new Codes(FlateCodes.TELLERS);
        flatePacker = new FlatePacker(symbols, distances, tellers);
        flateUnpacker = new FlateUnpacker(symbols, distances, tellers);
        dictionary = new Dictionary();
    }

    public void add(byte b) throws UnsupportedOperationException {
        if (byteCount >= bytes.length) {
            throw new UnsupportedOperationException("no room for another byte");
        }
        bytes[byteCount] = b;
        byteCount++;
    }

    public int pack(int kind, int level) throws IllegalArgumentException, UnsupportedOperationException {
        if (!isKind(kind)) {
            throw new IllegalArgumentException("no such kind");
        }
        if (kind == FLATE && (level < FlatePacker.STORED || level > FlatePacker.LEAST)) {
            throw new IllegalArgumentException("no such level");
        }
        if (packToSpare(bytes, byteCount, kind, level) > bound) {
            throw new UnsupportedOperationException("longer than the bound");
        }
        return keepSpare(sink.size());
    }

    public int unpack(int kind) throws IllegalArgumentException {
        if (!isKind(kind)) {
            throw new IllegalArgumentException("no such kind");
        }
        source.begin(bytes, byteCount);
        sink.begin(spare);
        sumDiffered = unpackToSpare(kind);
        int count = sink.size();
        if (isPredicted(kind)) {
            count = rows.restore(spare, count);
        }
        keepSpare(count);
        return source.isFaulty() ? -1 - source.faultPlace() : count;
    }

    public byte out(int i) throws ArrayIndexOutOfBoundsException {
        if (i < 0 || i >= resultCount || i >= result.length) {
            throw new ArrayIndexOutOfBoundsException("no such byte of the out");
        }
        return result[i];
    }

    public int predictor(int kind, int colours, int bits, int columns) {
        return rows.choose(kind, colours, bits, columns);
    }

    public int table(int lengths) {
        int room = 1 << Codes.MOST_LENGTH;
        for (int shift = 0; shift < 32; shift += 4) {
            int length = (lengths >>> shift) & 15;
            if (length > 0) {
                room -= 1 << (Codes.MOST_LENGTH - length);
            }
        }
        if (room < 0) {
            return -1;
        }
        return room == 0 ? 1 : 0;
    }

    public long sum(int kind) throws IllegalArgumentException {
        if (kind != 0 && kind != 1) {
            throw new IllegalArgumentException("no such sum");
        }
        return kind == 0 ? byteSum(result, resultCount) : byteRemainder(result, resultCount);
    }

    public boolean differs() {
        return sumDiffered;
    }

    public int chain(int kind) throws IllegalArgumentException, UnsupportedOperationException {
        if (kind != MOVE_ONLY && !isKind(kind)) {
            throw new IllegalArgumentException("no such kind");
        }
        int moved = Math.min(resultCount, MOST_BYTES);
        if (kind == MOVE_ONLY) {
            becomeBytes(moved);
            return resultCount;
        }
        if (packToSpare(result, moved, kind, FlatePacker.LEAST) > bound) {
            throw new UnsupportedOperationException("longer than the bound");
        }
        becomeBytes(moved);
        return keepSpare(sink.size());
    }

    public int cell(int back) throws ArrayIndexOutOfBoundsException {
        if (back < 1 || back > resultCount || resultCount > result.length) {
            throw new ArrayIndexOutOfBoundsException("not so many bytes in the out");
        }
        return result[resultCount - back] & 255;
    }

    private static boolean isKind(int kind) {
        return kind >= FLATE && kind <= FIVES;
    }

    private boolean isPredicted(int kind) {
        return (kind == FLATE || kind == DICTIONARY) && !rows.isNone();
    }

    private int packToSpare(byte[] from, int count, int kind, int level) {
        byte[] data = from;
        int size = count;
        if (isPredicted(kind)) {
            size = rows.filter(from, count, predicted);
            data = predicted;
        }
        sink.begin(spare);
        switch (kind) {
            case FLATE:
                flatePacker.write(data, size, level, sink);
                break;
            case DICTIONARY:
                dictionary.write(data, size, sink);
                break;
            case RUNS:
                RunLengths.write(data, size, sink);
                break;
            case HALVES:
                Signs.writeHalves(data, size, sink);
                break;
            default:
                Signs.writeFives(data, size, sink);
                break;
        }
        return sink.size();
    }

    private boolean unpackToSpare(int kind) {
        switch (kind) {
            case FLATE:
                return flateUnpacker.read(source, sink);
            case DICTIONARY:
                dictionary.read(source, sink);
                return false;
            case RUNS:
                RunLengths.read(source, sink);
                return false;
            case HALVES:
                Signs.readHalves(source, sink);
                return false;
            default:
                Signs.readFives(source, sink);
                return false;
        }
    }

    private int keepSpare(int count) {
        byte[] before = result;
        result = spare;
        spare = before;
        resultCount = Math.min(count, result.length);
        return resultCount;
    }

    private void becomeBytes(int moved) {
        byteCount = Math.max(0, Math.min(moved, Math.min(bytes.length, result.length)));
        System.arraycopy(result, 0, bytes, 0, byteCount);
    }

    private static long byteSum(byte[] cells, int count) {
        int a = 1;
        int b = 0;
        for (int i = 0; i < count && i < cells.length; i++) {
            a = (a + (cells[i] & 255)) % SUM_MODULUS;
            b = (b + a) % SUM_MODULUS;
        }
        return ((long) b << 16) + a;
    }

    private static long byteRemainder(byte[] cells, int count) {
        int rest = -1;
        for (int i = 0; i < count && i < cells.length; i++) {
            rest ^= cells[i] & 255;
            for (int bit = 0; bit < 8; bit++) {
                rest = (rest & 1) == 1 ? (rest >>> 1) ^ POLYNOMIAL : rest >>> 1;
            }
        }
        return (~rest) & 0xffffffffL;
    }

    /** The bytes that a stream is taken from, and the place of the first fault in it. */
    static final class Source {
        private static final int NO_FAULT = -1;

        private byte[] cells;
        private int count;
        private int taken;
        private int fault;

        Source() {
            cells = new byte[0];
            fault = NO_FAULT;
        }

        void begin(byte[] from, int size) {
            cells = from;
            count = Math.min(size, from.length);
            taken = 0;
            fault = NO_FAULT;
        }

        boolean isFaulty() {
            return fault != NO_FAULT;
        }

        int faultPlace() {
            return fault;
        }

        /** A fault at the byte of which the last bit was taken, if there is none yet; always false. */
        boolean fail() {
            if (fault == NO_FAULT) {
                fault = Math.max(0, (taken - 1) >> 3);
            }
            return false;
        }

        /** The next whole byte, what is left of one being passed; -1 at the end, which is a fault. */
        int nextByte() {
            int place = (taken + 7) >> 3;
            if (place >= count) {
                fault = count;
                return -1;
            }
            taken = (place + 1) << 3;
            return cells[place] & 255;
        }

        /** A number from the lowest bits of bytes on, its own lowest bit first; -1 at the end. */
        int lowNumber(int width) {
            int number = 0;
            for (int i = 0; i < width; i++) {
                int place = taken >> 3;
                if (place >= count) {
                    fault = count;
                    return -1;
                }
                number |= ((cells[place] >> (taken & 7)) & 1) << i;
                taken++;
            }
            return number;
        }

        /** A number from the highest bits of bytes on, its own highest bit first; -1 at the end. */
        int highNumber(int width) {
            int number = 0;
            for (int i = 0; i < width; i++) {
                int place = taken >> 3;
                if (place >= count) {
                    fault = count;
                    return -1;
                }
                number = (number << 1) | ((cells[place] >> (7 - (taken & 7))) & 1);
                taken++;
            }
            return number;
        }
    }

    /** Where bytes go. It counts what does not fit, too, so that a length is known that is refused. */
    static final class Sink {
        private byte[] cells;
        private int bits;

        Sink() {
            cells = new byte[0];
        }

        void begin(byte[] to) {
            cells = to;
            bits = 0;
        }

        void restart() {
            bits = 0;
        }

        int size() {
            return (bits + 7) >> 3;
        }

        int at(int i) {
            return i >= 0 && i < cells.length ? cells[i] & 255 : 0;
        }

        long sumOfAll() {
            return byteSum(cells, size());
        }

        /** A whole byte; what is left of one begun is passed. */
        void put(int value) {
            int place = (bits + 7) >> 3;
            if (place < cells.length) {
                cells[place] = (byte) value;
            }
            bits = (place + 1) << 3;
        }

        /** A whole byte, if there is room for it. */
        boolean offer(int value) {
            int place = (bits + 7) >> 3;
            if (place >= cells.length) {
                return false;
            }
            cells[place] = (byte) value;
            bits = (place + 1) << 3;
            return true;
        }

        /** Bits of a number, its lowest one first, into bytes from their lowest bit on. */
        void putLowNumber(int number, int width) {
            for (int i = 0; i < width; i++) {
                int place = bits >> 3;
                int shift = bits & 7;
                if (place < cells.length) {
                    int before = shift == 0 ? 0 : cells[place];
                    cells[place] = (byte) (before | (((number >> i) & 1) << shift));
                }
                bits++;
            }
        }

        /** Bits of a number, its highest one first, into bytes from their highest bit on. */
        void putHighNumber(int number, int width) {
            for (int i = width - 1; i >= 0; i--) {
                int place = bits >> 3;
                int shift = 7 - (bits & 7);
                if (place < cells.length) {
                    int before = shift == 7 ? 0 : cells[place];
                    cells[place] = (byte) (before | (((number >> i) & 1) << shift));
                }
                bits++;
            }
        }
    }

    /** Changes rows of bytes to what differs from their neighbours, and back. */
    static final class Predictor {
        private static final int NONE = 0;
        private static final int BEFORE_ONLY = 2;
        private static final int FIRST_BY_ROWS = 10;
        private static final int BEST_BY_ROWS = 15;
        private static final int LAST_WAY = 4;

        private int kind = NONE;
        private int rowBytes = 1;
        private int step = 1;

        boolean isNone() {
            return kind == NONE;
        }

        int choose(int newKind, int colours, int bits, int columns) {
            boolean known = newKind == NONE || newKind == BEFORE_ONLY
                    || (newKind >= FIRST_BY_ROWS && newKind <= BEST_BY_ROWS);
            boolean bitsFit = bits == 8 || (newKind != BEFORE_ONLY && (bits == 1 || bits == 2 || bits == 4));
            if (!known || !bitsFit || colours < 1 || colours > 4 || columns < 1 || columns > 64) {
                return 0;
            }
            kind = newKind;
            rowBytes = (colours * bits * columns + 7) / 8;
            step = Math.max(1, colours * bits / 8);
            return rowBytes;
        }

        /** Writes what is to be packed and says how many bytes that are. */
        int filter(byte[] from, int count, byte[] to) {
            int size = Math.min(count, from.length);
            int made = 0;
            for (int start = 0; start < size; start += Math.max(1, rowBytes)) {
                int end = Math.min(size, start + rowBytes);
                int way = wayOf(from, start, end);
                if (kind != BEFORE_ONLY && made < to.length) {
                    to[made] = (byte) way;
                    made++;
                }
                for (int i = start; i < end && made < to.length; i++) {
                    to[made] = (byte) (from[i] - guess(from, start, i, way));
                    made++;
                }
            }
            return made;
        }

        /** Restores in place, which can be done as no byte goes behind the one it comes from. */
        int restore(byte[] cells, int count) {
            int size = Math.min(count, cells.length);
            int made = 0;
            int taken = 0;
            for (int row = 0; row < size && taken < size; row++) {
                int way = 1;
                if (kind != BEFORE_ONLY) {
                    way = cells[taken] & 255;
                    taken++;
                }
                int start = made;
                int end = start + Math.min(rowBytes, size - taken);
                for (int i = start; i < end && taken < size; i++) {
                    cells[i] = (byte) (cells[taken] + guess(cells, start, i, way));
                    taken++;
                }
                made = end;
            }
            return made;
        }

        private int wayOf(byte[] from, int start, int end) {
            if (kind == BEFORE_ONLY) {
                return 1;
            }
            if (kind != BEST_BY_ROWS) {
                return kind - FIRST_BY_ROWS;
            }
            int best = 0;
            int least = costOf(from, start, end, 0);
            for (int way = 1; way <= LAST_WAY; way++) {
                int cost = costOf(from, start, end, way);
                if (cost < least) {
                    least = cost;
                    best = way;
                }
            }
            return best;
        }

        private int costOf(byte[] from, int start, int end, int way) {
            int cost = 0;
            for (int i = start; i < end && i < from.length; i++) {
                int value = (from[i] - guess(from, start, i, way)) & 255;
                cost += value > 127 ? 256 - value : value;
            }
            return cost;
        }

        /** What byte i of the row from start on is taken to be by its neighbours. */
        private int guess(byte[] cells, int start, int i, int way) {
            boolean hasBefore = i - start >= step;
            boolean hasAbove = start >= rowBytes;
            int before = hasBefore ? cellAt(cells, i - step) : 0;
            int above = hasAbove ? cellAt(cells, i - rowBytes) : 0;
            switch (way) {
                case 1:
                    return before;
                case 2:
                    return above;
                case 3:
                    return (before + above) / 2;
                case 4:
                    int corner = hasBefore && hasAbove ? cellAt(cells, i - rowBytes - step) : 0;
                    return nearest(before, above, corner);
                default:
                    return 0;
            }
        }

        private static int cellAt(byte[] cells, int i) {
            return i >= 0 && i < cells.length ? cells[i] & 255 : 0;
        }

        private static int nearest(int a, int b, int c) {
            int aim = a + b - c;
            int toA = Math.abs(aim - a);
            int toB = Math.abs(aim - b);
            int toC = Math.abs(aim - c);
            if (toA <= toB && toA <= toC) {
                return a;
            }
            return toB <= toC ? b : c;
        }
    }

    /** Codes that follow from the lengths of their symbols. */
    static final class Codes {
        static final int MOST_LENGTH = 15;
        private static final int OVER_FULL = -1;
        private static final int HOLES = 0;
        private static final int ALL_USED = 1;

        private final int[] lengths;
        private final int[] turned;
        private final int[] sorted;
        private final int[] counts;
        private final int[] next;
        private final int[] places;
        private int used;

        Codes(int most) {
            lengths = new int[most];
            turned = new int[most];
            sorted = new int[most];
            counts = new int[MOST_LENGTH + 1];
            next = new int[MOST_LENGTH + 1];
            places = new int[MOST_LENGTH + 1];
        }

        void clear() {
            Arrays.fill(lengths, 0);
        }

        void setLength(int symbol, int length) {
            if (symbol >= 0 && symbol < lengths.length && length >= 0 && length <= MOST_LENGTH) {
                lengths[symbol] = length;
            }
        }

        void setLengths(int from, int to, int length) {
            for (int symbol = from; symbol < to; symbol++) {
                setLength(symbol, length);
            }
        }

        int lengthOf(int symbol) {
            return symbol >= 0 && symbol < lengths.length ? lengths[symbol] : 0;
        }

        /** A symbol's code with its highest bit as the lowest, so that it is written as a number is. */
        int turnedCodeOf(int symbol) {
            return symbol >= 0 && symbol < turned.length ? turned[symbol] : 0;
        }

        /** How many symbols must be told so that the last one with a code is, but so many at least. */
        int toldSymbols(int least) {
            int told = Math.min(lengths.length, least);
            for (int symbol = told; symbol < lengths.length; symbol++) {
                if (lengths[symbol] > 0) {
                    told = symbol + 1;
                }
            }
            return told;
        }

        /** Arranges the codes; false when they are over-full or have holes that are not allowed. */
        boolean arrange(boolean mayBeNone) {
            int state = countLengths();
            if (state == OVER_FULL) {
                return false;
            }
            for (int symbol = 0; symbol < lengths.length; symbol++) {
                int length = lengths[symbol];
                if (length > 0 && length <= MOST_LENGTH) {
                    turned[symbol] = turn(next[length], length);
                    next[length]++;
                    int place = places[length];
                    places[length]++;
                    if (place < sorted.length) {
                        sorted[place] = symbol;
                    }
                }
            }
            boolean oneAlone = used == 1 && counts[1] == 1;
            return state == ALL_USED || oneAlone || (mayBeNone && used == 0);
        }

        private static int turn(int code, int length) {
            int turned = 0;
            for (int i = 0; i < length; i++) {
                turned = (turned << 1) | ((code >> i) & 1);
            }
            return turned;
        }

        private int countLengths() {
            Arrays.fill(counts, 0);
            used = 0;
            for (int symbol = 0; symbol < lengths.length; symbol++) {
                int length = lengths[symbol];
                if (length > 0 && length <= MOST_LENGTH) {
                    counts[length]++;
                    used++;
                }
            }
            int room = 1;
            int code = 0;
            int place = 0;
            for (int length = 1; length <= MOST_LENGTH; length++) {
                room = 2 * room - counts[length];
                if (room < 0) {
                    return OVER_FULL;
                }
                code = 2 * code;
                next[length] = code;
                places[length] = place;
                code += counts[length];
                place += counts[length];
            }
            return room == 0 ? ALL_USED : HOLES;
        }

        /** The next symbol, or -1 with a fault, as soon as no code begins with the bits taken. */
        int read(Source in) {
            int code = 0;
            int first = 0;
            int passed = 0;
            for (int length = 1; length <= MOST_LENGTH && passed < used; length++) {
                int bit = in.lowNumber(1);
                if (bit < 0) {
                    return -1;
                }
                code = 2 * code + bit;
                first = 2 * first;
                int place = passed + code - first;
                if (code - first < counts[length] && place >= 0 && place < sorted.length) {
                    return sorted[place];
                }
                first += counts[length];
                passed += counts[length];
            }
            in.fail();
            return -1;
        }
    }

    /** The numbers of FLATE that packing and unpacking share. */
    static final class FlateCodes {
        static final int SYMBOLS = 288;
        static final int DISTANCES = 32;
        static final int TELLERS = 19;
        static final int END = 256;
        static final int FIRST_LENGTH = 257;
        static final int LAST_LENGTH = 285;
        static final int LAST_DISTANCE = 29;
        static final int LEAST_MATCH = 3;
        static final int MOST_MATCH = 258;
        static final int FIRST_BYTE = 120;
        static final int SECOND_BYTE = 1;
        static final int REPEAT = 16;
        static final int FEW_ZEROS = 17;
        static final int MANY_ZEROS = 18;
        private static final int[] TELLER_ORDER =
            {16, 17, 18, 0, 8, 7, 9, 6, 10, 5, 11, 4, 12, 3, 13, 2, 14, 1, 15};

        static int tellerAt(int i) {
            return i >= 0 && i < TELLER_ORDER.length ? TELLER_ORDER[i] : 0;
        }

        /** How many bits follow a symbol that tells lengths. */
        static int tellerBits(int teller) {
            switch (teller) {
                case REPEAT:
                    return 2;
                case FEW_ZEROS:
                    return 3;
                case MANY_ZEROS:
                    return 7;
                default:
                    return 0;
            }
        }

        /** The least number of times for which a symbol that tells lengths stands. */
        static int tellerLeast(int teller) {
            if (teller == MANY_ZEROS) {
                return 11;
            }
            return teller == REPEAT || teller == FEW_ZEROS ? 3 : 1;
        }

        /** How many more bits length symbol 257 + k has. */
        static int lengthWidth(int k) {
            return k < 8 || k == LAST_LENGTH - FIRST_LENGTH ? 0 : k / 4 - 1;
        }

        static int leastLength(int k, int width) {
            if (k == LAST_LENGTH - FIRST_LENGTH) {
                return MOST_MATCH;
            }
            return k < 8 ? 3 + k : 3 + ((4 + k % 4) << width);
        }

        /** How many more bits distance symbol k has. */
        static int distanceWidth(int k) {
            return k < 4 ? 0 : k / 2 - 1;
        }

        static int leastDistance(int k, int width) {
            return k < 4 ? 1 + k : 1 + ((2 + k % 2) << width);
        }

        static void setFixed(Codes symbols, Codes distances) {
            symbols.setLengths(0, 144, 8);
            symbols.setLengths(144, 256, 9);
            symbols.setLengths(256, 280, 7);
            symbols.setLengths(280, SYMBOLS, 8);
            distances.setLengths(0, DISTANCES, 5);
            symbols.arrange(false);
            distances.arrange(false);
        }
    }

    /** Unpacks FLATE. */
    static final class FlateUnpacker {
        // Each block and each symbol takes a bit at least, so no loop over them goes further.
        private static final int MOST_BITS = 8 * MOST_BYTES;

        private final Codes symbols;
        private final Codes distances;
        private final Codes tellers;
        private final int[] told;
        private int symbolCount;
        private int distanceCount;
        private Source in;
        private Sink to;

        FlateUnpacker(Codes symbols, Codes distances, Codes tellers) {
            this.symbols = symbols;
            this.distances = distances;
            this.tellers = tellers;
            told = new int[FlateCodes.SYMBOLS + FlateCodes.DISTANCES];
        }

        /** Whether it came to its end and the sum differed; a fault is told to the source. */
        boolean read(Source source, Sink sink) {
            in = source;
            to = sink;
            if (!takeByte(FlateCodes.FIRST_BYTE) || !takeByte(FlateCodes.SECOND_BYTE)) {
                return false;
            }
            boolean last = false;
            for (int block = 0; block < MOST_BITS && !last; block++) {
                last = in.lowNumber(1) == 1;
                int way = in.lowNumber(2);
                if (!readBlock(way)) {
                    return false;
                }
            }
            int high = readPair(true);
            int low = readPair(true);
            return high >= 0 && low >= 0 && ((long) high << 16) + low != to.sumOfAll();
        }

        private boolean takeByte(int wanted) {
            int value = in.nextByte();
            return value >= 0 && (value == wanted || in.fail());
        }

        private int readPair(boolean highFirst) {
            int one = in.nextByte();
            int other = in.nextByte();
            if (one < 0 || other < 0) {
                return -1;
            }
            return highFirst ? one * 256 + other : other * 256 + one;
        }

        private boolean readBlock(int way) {
            switch (way) {
                case 0:
                    return readStored();
                case 1:
                    FlateCodes.setFixed(symbols, distances);
                    return readSymbols();
                case 2:
                    return readTellers() && readTold() && useTold() && readSymbols();
                default:
                    return in.fail();
            }
        }

        private boolean readStored() {
            int length = readPair(false);
            int turned = readPair(false);
            if (length < 0 || turned < 0) {
                return false;
            }
            if (turned != 65535 - length) {
                return in.fail();
            }
            for (int i = 0; i < length; i++) {
                int value = in.nextByte();
                if (value < 0) {
                    return false;
                }
                if (!to.offer(value)) {
                    return in.fail();
                }
            }
            return true;
        }

        private boolean readSymbols() {
            for (int i = 0; i < MOST_BITS; i++) {
                int symbol = symbols.read(in);
                if (symbol < 0) {
                    return false;
                }
                if (symbol == FlateCodes.END) {
                    return true;
                }
                boolean good = symbol < FlateCodes.END ? to.offer(symbol)
                        : symbol <= FlateCodes.LAST_LENGTH && copyMatch(symbol - FlateCodes.FIRST_LENGTH);
                if (!good) {
                    return in.fail();
                }
            }
            return in.fail();
        }

        /** Copies a match; false is a fault at the last bit taken, if the bytes have not ended. */
        private boolean copyMatch(int k) {
            int lengthWidth = FlateCodes.lengthWidth(k);
            int moreLength = in.lowNumber(lengthWidth);
            if (moreLength < 0) {
                return false;
            }
            int symbol = distances.read(in);
            if (symbol < 0 || symbol > FlateCodes.LAST_DISTANCE) {
                return false;
            }
            int distanceWidth = FlateCodes.distanceWidth(symbol);
            int moreDistance = in.lowNumber(distanceWidth);
            int distance = FlateCodes.leastDistance(symbol, distanceWidth) + moreDistance;
            if (moreDistance < 0 || distance > to.size()) {
                return false;
            }
            int length = FlateCodes.leastLength(k, lengthWidth) + moreLength;
            for (int i = 0; i < length; i++) {
                if (!to.offer(to.at(to.size() - distance))) {
                    return false;
                }
            }
            return true;
        }

        private boolean readTellers() {
            symbolCount = in.lowNumber(5) + 257;
            distanceCount = in.lowNumber(5) + 1;
            int tellerCount = in.lowNumber(4) + 4;
            if (in.isFaulty()) {
                return false;
            }
            tellers.clear();
            for (int i = 0; i < tellerCount; i++) {
                int length = in.lowNumber(3);
                if (length < 0) {
                    return false;
                }
                tellers.setLength(FlateCodes.tellerAt(i), length);
            }
            return tellers.arrange(false) || in.fail();
        }

        private boolean readTold() {
            int total = Math.min(symbolCount + distanceCount, told.length);
            int place = 0;
            for (int i = 0; i < total && place < total; i++) {
                int teller = tellers.read(in);
                if (teller < 0) {
                    return false;
                }
                if (teller == FlateCodes.REPEAT && place == 0) {
                    return in.fail();
                }
                int more = in.lowNumber(FlateCodes.tellerBits(teller));
                if (more < 0) {
                    return false;
                }
                int times = FlateCodes.tellerLeast(teller) + more;
                if (times > total - place) {
                    return in.fail();
                }
                int length = teller < FlateCodes.REPEAT ? teller : 0;
                if (teller == FlateCodes.REPEAT && place > 0) {
                    length = told[place - 1];
                }
                int end = place + times;
                for (; place < end; place++) {
                    told[place] = length;
                }
            }
            return true;
        }

        private boolean useTold() {
            symbols.clear();
            distances.clear();
            for (int i = 0; i < symbolCount && i < told.length; i++) {
                symbols.setLength(i, told[i]);
            }
            for (int i = 0; i < distanceCount && symbolCount + i < told.length; i++) {
                distances.setLength(i, told[symbolCount + i]);
            }
            return (symbols.arrange(false) && distances.arrange(true)) || in.fail();
        }
    }

    /** Finds what to tell as matches, and keeps it for the levels that tell it. */
    static final class Matches {
        private static final int MARKS = 256;

        private final int[] earlier;
        private final int[] latest;
        private final int[] values;
        private final int[] distances;
        private int count;
        private int bestLength;
        private int bestDistance;

        Matches(int most) {
            earlier = new int[most];
            latest = new int[MARKS];
            values = new int[most];
            distances = new int[most];
        }

        int count() {
            return count;
        }

        /** The length of a match, or a byte that goes alone. */
        int valueAt(int i) {
            return i >= 0 && i < values.length ? values[i] : 0;
        }

        /** The distance of a match, 0 for a byte that goes alone. */
        int distanceAt(int i) {
            return i >= 0 && i < distances.length ? distances[i] : 0;
        }

        void find(byte[] data, int dataCount) {
            int size = Math.min(dataCount, Math.min(data.length, earlier.length));
            link(data, size);
            count = 0;
            int place = 0;
            for (int i = 0; i < size && place < size; i++) {
                seek(data, size, place);
                int length = bestLength;
                int distance = bestDistance;
                if (length > 0) {
                    seek(data, size, place + 1);
                }
                if (length == 0 || bestLength > length) {
                    keep(data[place] & 255, 0);
                    place++;
                } else {
                    keep(length, distance);
                    place += length;
                }
            }
        }

        private void keep(int value, int distance) {
            if (count < values.length) {
                values[count] = value;
                distances[count] = distance;
                count++;
            }
        }

        // Only places whose three bytes have the same mark can match, and the chain goes
        // from the nearest one on, so that the first of a length has the least distance.
        private void link(byte[] data, int size) {
            Arrays.fill(latest, -1);
            for (int i = 0; i < size && i < earlier.length; i++) {
                earlier[i] = -1;
                if (i < size - 2) {
                    int mark = (data[i] + 5 * data[i + 1] + 25 * data[i + 2]) & (MARKS - 1);
                    earlier[i] = latest[mark];
                    latest[mark] = i;
                }
            }
        }

        private void seek(byte[] data, int size, int place) {
            bestLength = 0;
            bestDistance = 0;
            int most = Math.min(FlateCodes.MOST_MATCH, size - place);
            if (most < FlateCodes.LEAST_MATCH || place < 0 || place >= earlier.length) {
                return;
            }
            int from = earlier[place];
            for (int i = 0; i < size && from >= 0 && from < place; i++) {
                int length = alike(data, from, place, most);
                if (length >= FlateCodes.LEAST_MATCH && length > bestLength) {
                    bestLength = length;
                    bestDistance = place - from;
                }
                if (bestLength >= most) {
                    return;
                }
                from = earlier[from];
            }
        }

        /** How many bytes are alike; 0 as soon as it can't be more than the best one. */
        private int alike(byte[] data, int from, int place, int most) {
            if (from < 0 || from >= place || most > data.length - place || bestLength >= most) {
                return 0;
            }
            if (data[from + bestLength] != data[place + bestLength]) {
                return 0;
            }
            int length = 0;
            while (length < most && data[from + length] == data[place + length]) {
                length++;
            }
            return length;
        }
    }

    /** Packs by FLATE. */
    static final class FlatePacker {
        static final int STORED = 0;
        static final int FIXED = 1;
        static final int TOLD = 2;
        static final int LEAST = 3;

        private final Codes symbols;
        private final Codes distances;
        private final Codes tellers;
        private final Matches matches;
        private final int[] symbolCounts;
        private final int[] distanceCounts;
        private final int[] groupCounts;
        private final int[] groupOf;
        private final int[] groupLengths;
        private final int[] lengths;
        private final int[] told;
        private final int[] toldMore;
        private int toldCount;
        private int symbolCount;
        private int distanceCount;

        FlatePacker(Codes symbols, Codes distances, Codes tellers) {
            this.symbols = symbols;
            this.distances = distances;
            this.tellers = tellers;
            matches = new Matches(MOST_PREDICTED);
            symbolCounts = new int[FlateCodes.SYMBOLS];
            distanceCounts = new int[FlateCodes.DISTANCES];
            groupCounts = new int[FlateCodes.SYMBOLS];
            groupOf = new int[FlateCodes.SYMBOLS];
            groupLengths = new int[FlateCodes.SYMBOLS];
            lengths = new int[FlateCodes.SYMBOLS + FlateCodes.DISTANCES];
            told = new int[FlateCodes.SYMBOLS + FlateCodes.DISTANCES];
            toldMore = new int[FlateCodes.SYMBOLS + FlateCodes.DISTANCES];
        }

        void write(byte[] data, int count, int level, Sink to) {
            if (level != STORED) {
                matches.find(data, count);
            }
            if (level != LEAST) {
                writeLevel(data, count, level, to);
                return;
            }
            int best = STORED;
            writeLevel(data, count, best, to);
            int least = to.size();
            for (int tried = FIXED; tried <= TOLD; tried++) {
                writeLevel(data, count, tried, to);
                if (to.size() < least) {
                    least = to.size();
                    best = tried;
                }
            }
            writeLevel(data, count, best, to);
        }

        private void writeLevel(byte[] data, int count, int level, Sink to) {
            to.restart();
            to.put(FlateCodes.FIRST_BYTE);
            to.put(FlateCodes.SECOND_BYTE);
            to.putLowNumber(1, 1);
            to.putLowNumber(level, 2);
            if (level == STORED) {
                writeStored(data, count, to);
            } else {
                if (level == FIXED) {
                    FlateCodes.setFixed(symbols, distances);
                } else {
                    makeCodes();
                    tellLengths();
                    makeTellers();
                    writeTellers(to);
                }
                writeMatches(to);
            }
            long sum = byteSum(data, count);
            for (int shift = 24; shift >= 0; shift -= 8) {
                to.put((int) (sum >> shift) & 255);
            }
        }

        private void writeStored(byte[] data, int count, Sink to) {
            to.put(count & 255);
            to.put((count >> 8) & 255);
            to.put((65535 - count) & 255);
            to.put(((65535 - count) >> 8) & 255);
            for (int i = 0; i < count && i < data.length; i++) {
                to.put(data[i]);
            }
        }

        private void writeMatches(Sink to) {
            for (int i = 0; i < matches.count(); i++) {
                int value = matches.valueAt(i);
                int distance = matches.distanceAt(i);
                if (distance == 0) {
                    writeCode(symbols, value, to);
                } else {
                    writeCode(symbols, lengthSymbol(value), to);
                    int width = value == FlateCodes.MOST_MATCH ? 0 : extraWidth(value - 3, 8);
                    to.putLowNumber(value - 3, width);
                    writeCode(distances, distanceSymbol(distance), to);
                    to.putLowNumber(distance - 1, extraWidth(distance - 1, 4));
                }
            }
            writeCode(symbols, FlateCodes.END, to);
        }

        private static void writeCode(Codes codes, int symbol, Sink to) {
            to.putLowNumber(codes.turnedCodeOf(symbol), codes.lengthOf(symbol));
        }

        /** How many of the lowest bits of a number are told behind its symbol. */
        private static int extraWidth(int number, int plain) {
            int width = 0;
            while (width < 31 && (number >> width) >= plain) {
                width++;
            }
            return width;
        }

        private static int lengthSymbol(int length) {
            if (length == FlateCodes.MOST_MATCH) {
                return FlateCodes.LAST_LENGTH;
            }
            int width = extraWidth(length - 3, 8);
            return FlateCodes.FIRST_LENGTH + 4 * width + ((length - 3) >> width);
        }

        private static int distanceSymbol(int distance) {
            int width = extraWidth(distance - 1, 4);
            return 2 * width + ((distance - 1) >> width);
        }

        private void makeCodes() {
            Arrays.fill(symbolCounts, 0);
            Arrays.fill(distanceCounts, 0);
            for (int i = 0; i < matches.count(); i++) {
                int distance = matches.distanceAt(i);
                if (distance == 0) {
                    countOne(symbolCounts, matches.valueAt(i));
                } else {
                    countOne(symbolCounts, lengthSymbol(matches.valueAt(i)));
                    countOne(distanceCounts, distanceSymbol(distance));
                }
            }
            countOne(symbolCounts, FlateCodes.END);
            makeLengths(symbolCounts, symbols);
            makeLengths(distanceCounts, distances);
            symbols.arrange(false);
            distances.arrange(true);
        }

        private static void countOne(int[] counts, int symbol) {
            if (symbol >= 0 && symbol < counts.length) {
                counts[symbol]++;
            }
        }

        // A group is known by its greatest symbol. The counts are at most 1601 together, so no
        // length comes above 15: that would take 2584 of them.
        private void makeLengths(int[] counts, Codes codes) {
            int size = Math.min(counts.length, groupCounts.length);
            int groups = 0;
            for (int symbol = 0; symbol < size; symbol++) {
                groupCounts[symbol] = counts[symbol];
                groupOf[symbol] = symbol;
                groupLengths[symbol] = 0;
                if (counts[symbol] > 0) {
                    groups++;
                }
            }
            boolean alone = groups == 1;
            for (; groups > 1; groups--) {
                int least = leastGroup(size, -1);
                joinGroups(size, least, leastGroup(size, least));
            }
            for (int symbol = 0; symbol < size; symbol++) {
                codes.setLength(symbol, alone && counts[symbol] > 0 ? 1 : groupLengths[symbol]);
            }
        }

        /** The group of the least count but one; of alike ones that with the greatest symbol. */
        private int leastGroup(int size, int but) {
            int least = -1;
            int leastCount = 0;
            for (int group = size - 1; group >= 0 && group < groupCounts.length; group--) {
                int count = groupCounts[group];
                if (count > 0 && group != but && (least < 0 || count < leastCount)) {
                    least = group;
                    leastCount = count;
                }
            }
            return least;
        }

        private void joinGroups(int size, int one, int other) {
            int kept = Math.max(one, other);
            int gone = Math.min(one, other);
            if (gone < 0 || kept >= groupCounts.length) {
                return;
            }
            groupCounts[kept] += groupCounts[gone];
            groupCounts[gone] = 0;
            for (int symbol = 0; symbol < size && symbol < groupOf.length; symbol++) {
                if (groupOf[symbol] == kept || groupOf[symbol] == gone) {
                    groupOf[symbol] = kept;
                    groupLengths[symbol]++;
                }
            }
        }

        private void tellLengths() {
            symbolCount = symbols.toldSymbols(257);
            distanceCount = distances.toldSymbols(1);
            int total = Math.min(symbolCount + distanceCount, lengths.length);
            for (int i = 0; i < total; i++) {
                lengths[i] = i < symbolCount ? symbols.lengthOf(i) : distances.lengthOf(i - symbolCount);
            }
            toldCount = 0;
            int place = 0;
            for (int i = 0; i < total && place < total; i++) {
                int length = lengths[place];
                int run = runOf(place, total);
                if (length == 0 && run >= 11) {
                    place += tell(FlateCodes.MANY_ZEROS, Math.min(run, 138), 11);
                } else if (length == 0 && run >= 3) {
                    place += tell(FlateCodes.FEW_ZEROS, run, 3);
                } else if (length > 0 && run >= 3 && place > 0 && lengths[place - 1] == length) {
                    place += tell(FlateCodes.REPEAT, Math.min(run, 6), 3);
                } else {
                    place += tell(length, 1, 1);
                }
            }
        }

        private int runOf(int place, int total) {
            int end = place;
            while (end < total && end < lengths.length && lengths[end] == lengths[place]) {
                end++;
            }
            return end - place;
        }

        private int tell(int teller, int times, int least) {
            if (toldCount < told.length) {
                told[toldCount] = teller;
                toldMore[toldCount] = times - least;
                toldCount++;
            }
            return times;
        }

        private void makeTellers() {
            tellers.clear();
            for (int i = 0; i < toldCount && i < told.length; i++) {
                tellers.setLength(told[i], 1);
            }
            int different = 0;
            for (int teller = 0; teller < FlateCodes.TELLERS; teller++) {
                different += tellers.lengthOf(teller);
            }
            if (different > 1) {
                int width = 0;
                while (width < 5 && (1 << width) < different) {
                    width++;
                }
                int shorter = (1 << width) - different;
                for (int teller = 0; teller < FlateCodes.TELLERS; teller++) {
                    if (tellers.lengthOf(teller) > 0) {
                        tellers.setLength(teller, shorter > 0 ? width - 1 : width);
                        shorter--;
                    }
                }
            }
            tellers.arrange(false);
        }

        private void writeTellers(Sink to) {
            int tellerCount = 4;
            for (int i = tellerCount; i < FlateCodes.TELLERS; i++) {
                if (tellers.lengthOf(FlateCodes.tellerAt(i)) > 0) {
                    tellerCount = i + 1;
                }
            }
            to.putLowNumber(symbolCount - 257, 5);
            to.putLowNumber(distanceCount - 1, 5);
            to.putLowNumber(tellerCount - 4, 4);
            for (int i = 0; i < tellerCount; i++) {
                to.putLowNumber(tellers.lengthOf(FlateCodes.tellerAt(i)), 3);
            }
            for (int i = 0; i < toldCount && i < told.length; i++) {
                writeCode(tellers, told[i], to);
                to.putLowNumber(toldMore[i], FlateCodes.tellerBits(told[i]));
            }
        }
    }

    /** Packs and unpacks by a dictionary that grows with its codes. */
    static final class Dictionary {
        private static final int ANEW = 256;
        private static final int END = 257;
        private static final int FIRST_ENTRY = 258;
        private static final int ENTRIES = 4096;
        // A code takes nine bits at least; one more finds that the bytes have ended.
        private static final int MOST_CODES = MOST_BYTES * 8 / 9 + 1;

        // Unpacking, an entry is a piece of what came: its first place and its length.
        // Packing, entries are a tree: the first longer one, the next one beside it, its last byte.
        private final int[] starts;
        private final int[] sizes;
        private final int[] lasts;

        Dictionary() {
            starts = new int[ENTRIES];
            sizes = new int[ENTRIES];
            lasts = new int[ENTRIES];
        }

        private static int widthFor(int entry) {
            if (entry >= 2047) {
                return 12;
            }
            if (entry >= 1023) {
                return 11;
            }
            return entry >= 511 ? 10 : 9;
        }

        void read(Source in, Sink to) {
            int entry = FIRST_ENTRY;
            int start = 0;
            int size = 0;
            for (int i = 0; i < MOST_CODES; i++) {
                int code = in.highNumber(widthFor(entry));
                if (code < 0 || code == END) {
                    return;
                }
                if (code == ANEW) {
                    entry = FIRST_ENTRY;
                    size = 0;
                    continue;
                }
                if (size > 0 && entry < ENTRIES) {
                    starts[entry] = start;
                    sizes[entry] = size + 1;
                    entry++;
                }
                start = to.size();
                size = code < ANEW ? 1 : sizeOf(code, entry);
                if (size == 0 || !giveCode(code, size, to)) {
                    in.fail();
                    return;
                }
            }
        }

        private int sizeOf(int code, int entry) {
            return code >= FIRST_ENTRY && code < entry && code < sizes.length ? sizes[code] : 0;
        }

        private boolean giveCode(int code, int size, Sink to) {
            boolean isEntry = code >= FIRST_ENTRY && code < starts.length;
            for (int i = 0; i < size; i++) {
                if (!to.offer(isEntry ? to.at(starts[code] + i) : code)) {
                    return false;
                }
            }
            return true;
        }

        void write(byte[] data, int count, Sink to) {
            int size = Math.min(count, data.length);
            Arrays.fill(starts, -1);
            to.putHighNumber(ANEW, widthFor(FIRST_ENTRY));
            int entry = FIRST_ENTRY;
            int place = 0;
            for (int i = 0; i < size && place < size; i++) {
                int code = data[place] & 255;
                place++;
                int longer = place < size ? longerBy(code, data[place]) : -1;
                while (longer >= 0 && place < size) {
                    code = longer;
                    place++;
                    longer = place < size ? longerBy(code, data[place]) : -1;
                }
                to.putHighNumber(code, widthFor(entry));
                if (i > 0) {
                    entry = Math.min(entry + 1, ENTRIES);
                }
                // It comes with the next code, which may be this very entry.
                if (place < size) {
                    hang(code, entry, data[place]);
                }
            }
            to.putHighNumber(END, widthFor(entry));
        }

        private int longerBy(int code, int last) {
            int entry = code >= 0 && code < starts.length ? starts[code] : -1;
            for (int i = 0; i < ENTRIES && entry >= 0 && entry < lasts.length; i++) {
                if (lasts[entry] == last) {
                    return entry;
                }
                entry = sizes[entry];
            }
            return -1;
        }

        private void hang(int code, int entry, int last) {
            if (entry < ENTRIES && code >= 0 && code < starts.length) {
                lasts[entry] = last;
                sizes[entry] = starts[code];
                starts[code] = entry;
            }
        }
    }

    /** Packs and unpacks by run lengths. */
    static final class RunLengths {
        private static final int END = 128;
        private static final int MOST = 128;

        static void write(byte[] data, int count, Sink to) {
            int size = Math.min(count, data.length);
            int place = 0;
            for (int i = 0; i < size && place < size; i++) {
                int run = runOf(data, size, place);
                if (run >= 2) {
                    to.put(257 - run);
                    to.put(data[place]);
                    place += run;
                } else {
                    int end = endOfOthers(data, size, place);
                    to.put(end - place - 1);
                    for (; place < end; place++) {
                        to.put(data[place]);
                    }
                }
            }
            to.put(END);
        }

        private static int runOf(byte[] data, int size, int place) {
            int end = place + 1;
            while (end < size && end - place < MOST && data[end] == data[place]) {
                end++;
            }
            return end - place;
        }

        private static int endOfOthers(byte[] data, int size, int place) {
            int end = place + 1;
            while (end < size && end - place < MOST && (end + 1 >= size || data[end] != data[end + 1])) {
                end++;
            }
            return end;
        }

        static void read(Source in, Sink to) {
            for (int i = 0; i < MOST_BYTES + 1; i++) {
                int n = in.nextByte();
                if (n < 0 || n == END) {
                    return;
                }
                int times = n < END ? n + 1 : 257 - n;
                int value = 0;
                for (int k = 0; k < times; k++) {
                    if (k == 0 || n < END) {
                        value = in.nextByte();
                    }
                    if (value < 0) {
                        return;
                    }
                    if (!to.offer(value)) {
                        in.fail();
                        return;
                    }
                }
            }
        }
    }

    /** Packs and unpacks the two forms in plain signs. */
    static final class Signs {
        private static final int BLANK = 32;
        private static final int FIRST = 33;
        private static final int LAST = 117;
        private static final int BASE = 85;
        private static final long MOST_VALUE = 0xffffffffL;

        static void writeHalves(byte[] data, int count, Sink to) {
            for (int i = 0; i < count && i < data.length; i++) {
                to.put(halfSign((data[i] >> 4) & 15));
                to.put(halfSign(data[i] & 15));
            }
            to.put('>');
        }

        private static int halfSign(int half) {
            return half < 10 ? '0' + half : 'A' + half - 10;
        }

        private static int halfOf(int sign) {
            if (sign >= '0' && sign <= '9') {
                return sign - '0';
            }
            if (sign >= 'A' && sign <= 'F') {
                return sign - 'A' + 10;
            }
            return sign >= 'a' && sign <= 'f' ? sign - 'a' + 10 : -1;
        }

        static void readHalves(Source in, Sink to) {
            int waiting = -1;
            for (int i = 0; i < MOST_BYTES + 1; i++) {
                int sign = in.nextByte();
                boolean ends = sign == '>';
                int half = ends ? 0 : halfOf(sign);
                if (sign < 0 || (ends && waiting < 0)) {
                    return;
                }
                if (sign <= BLANK) {
                    continue;
                }
                if (half < 0) {
                    in.fail();
                    return;
                }
                if (waiting < 0) {
                    waiting = half;
                    continue;
                }
                if (!to.offer(16 * waiting + half)) {
                    in.fail();
                    return;
                }
                if (ends) {
                    return;
                }
                waiting = -1;
            }
        }

        static void writeFives(byte[] data, int count, Sink to) {
            int size = Math.min(count, data.length);
            for (int start = 0; start < size; start += 4) {
                int taken = Math.min(4, size - start);
                long value = 0;
                for (int i = 0; i < 4; i++) {
                    value = 256 * value + (i < taken ? data[start + i] & 255 : 0);
                }
                if (taken == 4 && value == 0) {
                    to.put('z');
                } else {
                    for (int i = 0; i <= taken; i++) {
                        to.put(FIRST + digitOf(value, i));
                    }
                }
            }
            to.put('~');
            to.put('>');
        }

        private static int digitOf(long value, int place) {
            long rest = value;
            for (int i = place; i < 4; i++) {
                rest /= BASE;
            }
            return (int) (rest % BASE);
        }

        static void readFives(Source in, Sink to) {
            long value = 0;
            int waiting = 0;
            for (int i = 0; i < MOST_BYTES + 1; i++) {
                int sign = in.nextByte();
                if (sign < 0) {
                    return;
                }
                if (sign <= BLANK) {
                    continue;
                }
                if (sign == '~') {
                    endFives(value, waiting, in, to);
                    return;
                }
                boolean good = sign <= LAST;
                if (sign == 'z') {
                    good = waiting == 0 && giveFour(0, 4, to);
                } else if (good) {
                    value = BASE * value + sign - FIRST;
                    waiting++;
                }
                if (waiting == 5) {
                    good = giveFour(value, 4, to);
                    value = 0;
                    waiting = 0;
                }
                if (!good) {
                    in.fail();
                    return;
                }
            }
        }

        private static void endFives(long value, int waiting, Source in, Sink to) {
            long filled = value;
            for (int i = waiting; i < 5; i++) {
                filled = BASE * filled + LAST - FIRST;
            }
            boolean good = waiting == 0 || (waiting > 1 && giveFour(filled, waiting - 1, to));
            if (!good || in.nextByte() != '>') {
                in.fail();
            }
        }

        /** So many of the four bytes of a number, highest first; false if it or the out is too great. */
        private static boolean giveFour(long value, int wanted, Sink to) {
            if (value > MOST_VALUE) {
                return false;
            }
            for (int i = 0; i < wanted; i++) {
                if (!to.offer((int) (value >> (24 - 8 * i)) & 255)) {
                    return false;
                }
            }
            return true;
        }
    }
}
