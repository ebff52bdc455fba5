/**
 * Text regions: symbols of a dictionary laid at places, told as bits, read again or refused, and
 * composed. All rows are made once, in the constructors; no call makes an object, but for what it
 * throws.
 */
public final class TextRegions {
    public static final int NONE = -1;

    private static final int MOST_SIDE = 24;
    private static final int MOST_KIND = 1;
    private static final int MOST_SYMBOLS = 16;
    private static final int MOST_SYMBOL_SIDE = 8;
    private static final int MOST_INSTANCES = 40;
    private static final int LEAST_PLACE = -8;
    private static final int MOST_PLACE = 31;
    private static final int MOST_TRIES = 8;
    private static final int MOST_BYTES = 2000;

    private static final int CORNER = 0;
    private static final int TURNED = 1;
    private static final int LOG = 2;
    private static final int OPERATOR = 3;
    private static final int WAYS = 4;
    private static final int[] MOST_OF_WAY = {3, 1, 3, 4};
    private static final int[] BITS_OF_WAY = {2, 1, 2, 3};
    private static final int[] WAYS_AS_TOLD = {LOG, TURNED, CORNER, OPERATOR};
    private static final int LAID_OPERATOR = 4;

    /** A strip is told as how much it is above the one before, less 1: so the first one gets its 16. */
    private static final int BEFORE_ALL_STRIPS = -17;
    private static final int MOST_ZEROS = 12;
    private static final int LENGTH_BITS = 4;
    private static final int MOST_LENGTH = 15;

    private static final int BITS_END = 1;
    private static final int TOO_MANY = 2;
    private static final int NO_OPERATOR = 3;
    private static final int NOT_FULL = 4;
    private static final int NO_SYMBOL = 5;
    private static final int NO_PLACE = 6;
    private static final int WRONG_RUN = 7;
    private static final int LONG_NUMBER = 8;
    private static final int BEHIND_END = 9;

    private final int kind;
    private final Dictionary symbols;
    private final Page page;
    private final ByteRow toldBytes;
    private final ByteRow cameBytes;
    private final Teller teller;
    private final Reader reader;
    private Layout layout;
    /** A reading fills this one, so that a refused one leaves the other as it was. */
    private Layout spare;
    private int refusedAt;

    public TextRegions(int width, int height, int kind) {
        this.kind = nearest(kind, 0, MOST_KIND);
        symbols = new Dictionary();
        page = new Page(nearest(width, 1, MOST_SIDE), nearest(height, 1, MOST_SIDE));
        toldBytes = new ByteRow();
        cameBytes = new ByteRow();
        Names names = this.kind == 0 ? new CodeNames(symbols) : new FrontNames(symbols);
        teller = new Teller(names, new BitWriter(toldBytes));
        reader = new Reader(names, new BitReader(cameBytes));
        layout = new Layout(symbols);
        spare = new Layout(symbols);
        refusedAt = NONE;
    }

    public int symbol(int width, int height) throws IllegalArgumentException, UnsupportedOperationException {
        if (!isWithin(width, 1, MOST_SYMBOL_SIDE) || !isWithin(height, 1, MOST_SYMBOL_SIDE)) {
            throw new IllegalArgumentException("a symbol's width and height are 1 .. 8");
        }
        if (symbols.count >= MOST_SYMBOLS) {
            throw new UnsupportedOperationException("there are 16 symbols");
        }
        return symbols.add(width, height);
    }

    public boolean put(int symbol, int x, int y, boolean dark) throws IndexOutOfBoundsException {
        if (!symbols.has(symbol) || !symbols.hasSample(symbol, x, y)) {
            throw new IndexOutOfBoundsException("there is no such sample of a symbol");
        }
        long before = symbols.samples[symbol];
        symbols.samples[symbol] = withBit(before, symbols.sampleNumber(symbol, x, y), dark);
        return symbols.samples[symbol] != before;
    }

    public int instance(int symbol, int x, int y)
            throws IndexOutOfBoundsException, IllegalArgumentException, UnsupportedOperationException {
        if (!symbols.has(symbol)) {
            throw new IndexOutOfBoundsException("there is no such symbol");
        }
        if (!isPlace(x) || !isPlace(y)) {
            throw new IllegalArgumentException("x and y are -8 .. 31");
        }
        if (layout.count >= MOST_INSTANCES) {
            throw new UnsupportedOperationException("there are 40 instances");
        }
        return layout.add(symbol, x, y);
    }

    public boolean refine(int instance, int x, int y, boolean differs) throws IndexOutOfBoundsException {
        if (!layout.has(instance) || !symbols.hasSample(layout.symbolOf[instance], x, y)) {
            throw new IndexOutOfBoundsException("there is no such sample of an instance");
        }
        long before = layout.differs[instance];
        int sample = symbols.sampleNumber(layout.symbolOf[instance], x, y);
        layout.differs[instance] = withBit(before, sample, differs);
        return layout.differs[instance] != before;
    }

    public int way(int what, int v) throws IllegalArgumentException {
        if (!isWithin(what, 0, WAYS - 1) || !isWithin(v, 0, MOST_OF_WAY[what])) {
            throw new IllegalArgumentException("there is no such way");
        }
        int before = layout.ways[what];
        layout.ways[what] = v;
        return before;
    }

    public int order(int tries) throws IllegalArgumentException {
        if (!isWithin(tries, 0, MOST_TRIES)) {
            throw new IllegalArgumentException("tries are 0 .. 8");
        }
        teller.prepare(layout);
        if (layout.ways[OPERATOR] != LAID_OPERATOR) {
            boolean changed = true;
            for (int i = 0; i < tries && changed; i++) {
                changed = changeNeighbours();
            }
        }
        return teller.tellAll(layout, false);
    }

    public int compose() {
        layout.arrange();
        page.lighten();
        for (int i = 0; i < layout.count; i++) {
            page.lay(layout, layout.sequence[i]);
        }
        return page.countDark();
    }

    public boolean at(int x, int y) throws IndexOutOfBoundsException {
        if (!page.has(x, y)) {
            throw new IndexOutOfBoundsException("there is no such sample of the region");
        }
        return page.dark[y * page.width + x];
    }

    public int write() {
        teller.prepare(layout);
        teller.tellAll(layout, true);
        return toldBytes.count;
    }

    public int byteAt(int i) throws IndexOutOfBoundsException {
        if (!isWithin(i, 0, toldBytes.count - 1)) {
            throw new IndexOutOfBoundsException("there is no such byte");
        }
        return toldBytes.bytes[i];
    }

    public int feed(int b) throws IllegalArgumentException, UnsupportedOperationException {
        if (!isWithin(b, 0, 255)) {
            throw new IllegalArgumentException("a byte is 0 .. 255");
        }
        if (cameBytes.count >= MOST_BYTES) {
            throw new UnsupportedOperationException("there are 2000 bytes");
        }
        cameBytes.append(b);
        return cameBytes.count;
    }

    public int pass() throws UnsupportedOperationException {
        if (toldBytes.count > MOST_BYTES - cameBytes.count) {
            throw new UnsupportedOperationException("there would be more than 2000 bytes");
        }
        for (int i = 0; i < toldBytes.count; i++) {
            cameBytes.append(toldBytes.bytes[i]);
        }
        return cameBytes.count;
    }

    public int read() {
        int refusal = reader.readAll(spare);
        refusedAt = refusal == 0 ? NONE : reader.bitsRead();
        cameBytes.count = 0;
        if (refusal != 0) {
            return -1 - refusal;
        }
        Layout before = layout;
        layout = spare;
        spare = before;
        return layout.count;
    }

    public int place(int instance, int what) throws IndexOutOfBoundsException {
        if (!layout.has(instance)) {
            throw new IndexOutOfBoundsException("there is no such instance");
        }
        switch (what) {
            case 0: return layout.symbolOf[instance];
            case 1: return layout.xs[instance];
            case 2: return layout.ys[instance];
            case 3: return layout.cornerS(instance);
            case 4: return layout.cornerT(instance);
            case 5: return layout.strip(instance);
            case 6: return Long.bitCount(layout.differs[instance]);
            default: return NONE;
        }
    }

    public int told(int what) {
        switch (what) {
            case 0: return page.width;
            case 1: return page.height;
            case 2: return kind;
            case 3: return symbols.count;
            case 4: return layout.count;
            case 5: return toldBytes.count;
            case 6: return cameBytes.count;
            case 7: return refusedAt;
            default: return NONE;
        }
    }

    public void clear() {
        symbols.count = 0;
        layout.empty();
        toldBytes.count = 0;
        cameBytes.count = 0;
        page.lighten();
    }

    /** One try. Neighbours of one strip that change places leave THE ORDER's places as prepared. */
    private boolean changeNeighbours() {
        boolean changed = false;
        int least = teller.tellAll(layout, false);
        for (int i = 0; i + 1 < layout.count; i++) {
            if (layout.strip(i) == layout.strip(i + 1)) {
                layout.swapWithNext(i);
                int bits = teller.tellAll(layout, false);
                if (bits < least) {
                    least = bits;
                    changed = true;
                } else {
                    layout.swapWithNext(i);
                }
            }
        }
        return changed;
    }

    private static int nearest(int v, int least, int most) {
        return Math.max(least, Math.min(most, v));
    }

    private static boolean isWithin(int v, int least, int most) {
        return v >= least && v <= most;
    }

    private static boolean isPlace(int v) {
        return isWithin(v, LEAST_PLACE, MOST_PLACE);
    }

    private static long withBit(long bits, int number, boolean set) {
        return set ? bits | 1L << number : bits & ~(1L << number);
    }

    private static boolean hasBit(long bits, int number) {
        return (bits >>> number & 1L) != 0;
    }

    /** The symbols; the samples of one, row by row from the lowest bit on, are at most the 64 of a long. */
    private static final class Dictionary {
        private final int[] widths = new int[MOST_SYMBOLS];
        private final int[] heights = new int[MOST_SYMBOLS];
        private final long[] samples = new long[MOST_SYMBOLS];
        private int count = 0;

        private int add(int width, int height) {
            widths[count] = width;
            heights[count] = height;
            samples[count] = 0;
            count++;
            return count - 1;
        }

        private boolean has(int symbol) {
            return isWithin(symbol, 0, count - 1);
        }

        private boolean hasSample(int symbol, int x, int y) {
            return isWithin(x, 0, widths[symbol] - 1) && isWithin(y, 0, heights[symbol] - 1);
        }

        private int sampleNumber(int symbol, int x, int y) {
            return y * widths[symbol] + x;
        }

        private int sampleCount(int symbol) {
            return widths[symbol] * heights[symbol];
        }
    }

    /** The ways and the instances: what a reading puts in place as a whole. */
    private static final class Layout {
        private final Dictionary symbols;
        private final int[] ways = new int[WAYS];
        private final int[] symbolOf = new int[MOST_INSTANCES];
        private final int[] xs = new int[MOST_INSTANCES];
        private final int[] ys = new int[MOST_INSTANCES];
        private final long[] differs = new long[MOST_INSTANCES];
        private final int[] sequence = new int[MOST_INSTANCES];
        private int count = 0;

        private Layout(Dictionary symbols) {
            this.symbols = symbols;
        }

        private void empty() {
            count = 0;
            for (int i = 0; i < WAYS; i++) {
                ways[i] = 0;
            }
        }

        private boolean has(int instance) {
            return isWithin(instance, 0, count - 1);
        }

        private int add(int symbol, int x, int y) {
            symbolOf[count] = symbol;
            xs[count] = x;
            ys[count] = y;
            differs[count] = 0;
            count++;
            return count - 1;
        }

        /** Whether the place that a corner leads to is one that an instance may have. */
        private boolean addByCorner(int symbol, int s, int t) {
            int x = (isTurned() ? t : s) - cornerColumn(symbol);
            int y = (isTurned() ? s : t) - cornerRow(symbol);
            if (count >= MOST_INSTANCES || !isPlace(x) || !isPlace(y)) {
                return false;
            }
            add(symbol, x, y);
            return true;
        }

        private void swapWithNext(int i) {
            int symbol = symbolOf[i];
            int x = xs[i];
            int y = ys[i];
            long differing = differs[i];
            symbolOf[i] = symbolOf[i + 1];
            xs[i] = xs[i + 1];
            ys[i] = ys[i + 1];
            differs[i] = differs[i + 1];
            symbolOf[i + 1] = symbol;
            xs[i + 1] = x;
            ys[i + 1] = y;
            differs[i + 1] = differing;
        }

        private boolean isTurned() {
            return ways[TURNED] != 0;
        }

        private int cornerColumn(int symbol) {
            return ways[CORNER] >= 2 ? symbols.widths[symbol] - 1 : 0;
        }

        private int cornerRow(int symbol) {
            return ways[CORNER] % 2 == 1 ? symbols.heights[symbol] - 1 : 0;
        }

        private int cornerS(int i) {
            return isTurned() ? ys[i] + cornerRow(symbolOf[i]) : xs[i] + cornerColumn(symbolOf[i]);
        }

        private int cornerT(int i) {
            return isTurned() ? xs[i] + cornerColumn(symbolOf[i]) : ys[i] + cornerRow(symbolOf[i]);
        }

        private int strip(int i) {
            return cornerT(i) >> ways[LOG];
        }

        /** The S that would stand next behind an instance. */
        private int nextS(int i) {
            int symbol = symbolOf[i];
            return cornerS(i) + (isTurned() ? symbols.heights[symbol] : symbols.widths[symbol]);
        }

        /** Makes THE ORDER: inserting behind equal strips keeps the row's own order in a strip. */
        private void arrange() {
            for (int i = 0; i < count; i++) {
                int strip = strip(i);
                int at = i;
                while (at > 0 && strip(sequence[at - 1]) > strip) {
                    sequence[at] = sequence[at - 1];
                    at--;
                }
                sequence[at] = i;
            }
        }
    }

    /** The region's samples as they were composed last. */
    private static final class Page {
        private final int width;
        private final int height;
        private final boolean[] dark;

        private Page(int width, int height) {
            this.width = width;
            this.height = height;
            dark = new boolean[width * height];
        }

        private boolean has(int x, int y) {
            return isWithin(x, 0, width - 1) && isWithin(y, 0, height - 1);
        }

        private void lighten() {
            for (int i = 0; i < dark.length; i++) {
                dark[i] = false;
            }
        }

        private int countDark() {
            int count = 0;
            for (int i = 0; i < dark.length; i++) {
                count += dark[i] ? 1 : 0;
            }
            return count;
        }

        private void lay(Layout layout, int i) {
            Dictionary symbols = layout.symbols;
            int symbol = layout.symbolOf[i];
            long laid = symbols.samples[symbol] ^ layout.differs[i];
            for (int y = 0; y < symbols.heights[symbol]; y++) {
                for (int x = 0; x < symbols.widths[symbol]; x++) {
                    boolean isDark = hasBit(laid, symbols.sampleNumber(symbol, x, y));
                    laySample(layout.xs[i] + x, layout.ys[i] + y, isDark, layout.ways[OPERATOR]);
                }
            }
        }

        private void laySample(int x, int y, boolean laid, int operator) {
            if (has(x, y)) {
                dark[y * width + x] = composed(dark[y * width + x], laid, operator);
            }
        }

        private static boolean composed(boolean was, boolean laid, int operator) {
            switch (operator) {
                case 0: return was || laid;
                case 1: return was && laid;
                case 2: return was != laid;
                case 3: return was == laid;
                default: return laid;
            }
        }
    }

    /** Bytes that were told, or that came. */
    private static final class ByteRow {
        private final int[] bytes = new int[MOST_BYTES];
        private int count = 0;

        private void append(int b) {
            if (count < MOST_BYTES) {
                bytes[count] = b;
                count++;
            }
        }
    }

    /** Tells bits, or only counts them: the order of instances asks for many counts. */
    private static final class BitWriter {
        private final ByteRow row;
        private boolean keeping = false;
        private int count = 0;

        private BitWriter(ByteRow row) {
            this.row = row;
        }

        private void start(boolean keep) {
            keeping = keep;
            count = 0;
            if (keep) {
                row.count = 0;
            }
        }

        private void tellBits(int v, int howMany) {
            if (!keeping) {
                count += howMany;
                return;
            }
            for (int i = howMany - 1; i >= 0; i--) {
                if (count % 8 == 0) {
                    row.append(0);
                }
                if (count / 8 < row.count) {
                    row.bytes[count / 8] |= (v >> i & 1) << 7 - count % 8;
                }
                count++;
            }
        }

        /** The k bits 0 are the leading ones of n + 1 when it is told by 2 k + 1 bits. */
        private void tellNumber(int n) {
            int k = 0;
            while (k < MOST_ZEROS && n + 1 >> k + 1 != 0) {
                k++;
            }
            tellBits(n + 1, 2 * k + 1);
        }

        private void tellSigned(int v) {
            tellNumber(v >= 0 ? 2 * v : -2 * v - 1);
        }
    }

    /** Reads bits up to the first refusal; from then on nothing more is read, and all bits are 0. */
    private static final class BitReader {
        private final ByteRow row;
        private int place = 0;
        private int refusal = 0;

        private BitReader(ByteRow row) {
            this.row = row;
        }

        private void start() {
            place = 0;
            refusal = 0;
        }

        private void refuse(int why) {
            if (refusal == 0) {
                refusal = why;
            }
        }

        private boolean isRefused() {
            return refusal != 0;
        }

        private int nextBit() {
            if (refusal != 0) {
                return 0;
            }
            if (place / 8 >= row.count) {
                refusal = BITS_END;
                return 0;
            }
            int bit = row.bytes[place / 8] >> 7 - place % 8 & 1;
            place++;
            return bit;
        }

        private int nextBits(int howMany) {
            int v = 0;
            for (int i = 0; i < howMany; i++) {
                v = v << 1 | nextBit();
            }
            return v;
        }

        private int nextNumber() {
            int zeros = 0;
            while (zeros <= MOST_ZEROS && nextBit() == 0) {
                zeros++;
            }
            if (zeros > MOST_ZEROS) {
                refuse(LONG_NUMBER);
                return 0;
            }
            int v = 1;
            for (int i = 0; i < zeros; i++) {
                v = v << 1 | nextBit();
            }
            return v - 1;
        }

        private int nextSigned() {
            int n = nextNumber();
            return n % 2 == 0 ? n / 2 : -(n / 2) - 1;
        }

        private void readEnd() {
            for (int i = 0; i < 8 && place % 8 != 0; i++) {
                if (nextBit() == 1) {
                    refuse(BEHIND_END);
                }
            }
            if (place / 8 < row.count) {
                refuse(BEHIND_END);
            }
        }
    }

    /** How symbols are named; every telling and every reading begins with the table. */
    private interface Names {
        void suit(Layout layout);

        void tellTable(BitWriter out);

        void tellName(int symbol, BitWriter out);

        void readTable(BitReader in, int instances);

        int readName(BitReader in);
    }

    /** KIND 1: a symbol that was named goes to the front. */
    private static final class FrontNames implements Names {
        private final Dictionary symbols;
        private final int[] row = new int[MOST_SYMBOLS];

        private FrontNames(Dictionary symbols) {
            this.symbols = symbols;
        }

        /** Nothing: these names go by the row alone, whatever the instances are. */
        public void suit(Layout layout) {
        }

        public void tellTable(BitWriter out) {
            putByNumber();
        }

        public void tellName(int symbol, BitWriter out) {
            int place = 0;
            while (place < symbols.count - 1 && row[place] != symbol) {
                place++;
            }
            out.tellNumber(place);
            toFront(place);
        }

        public void readTable(BitReader in, int instances) {
            putByNumber();
        }

        public int readName(BitReader in) {
            int place = in.nextNumber();
            if (in.isRefused()) {
                return 0;
            }
            if (place >= symbols.count) {
                in.refuse(NO_SYMBOL);
                return 0;
            }
            toFront(place);
            return row[0];
        }

        private void putByNumber() {
            for (int i = 0; i < MOST_SYMBOLS; i++) {
                row[i] = i;
            }
        }

        private void toFront(int place) {
            int symbol = row[place];
            for (int i = place; i > 0; i--) {
                row[i] = row[i - 1];
            }
            row[0] = symbol;
        }
    }

    /** KIND 0: symbols have codes by how many instances they have. */
    private static final class CodeNames implements Names {
        private final Dictionary symbols;
        private final int[] lengths = new int[MOST_SYMBOLS];
        private final int[] codes = new int[MOST_SYMBOLS];
        /** Symbols by number, then what was joined, so that a lower index was there earlier. */
        private final int[] weights = new int[2 * MOST_SYMBOLS];
        private final int[] joinedTo = new int[2 * MOST_SYMBOLS];

        private CodeNames(Dictionary symbols) {
            this.symbols = symbols;
        }

        public void suit(Layout layout) {
            weigh(layout);
            int used = 0;
            for (int i = 0; i < symbols.count; i++) {
                used += weights[i] > 0 ? 1 : 0;
            }
            for (int i = 0; i < used - 1; i++) {
                int joined = MOST_SYMBOLS + i;
                int least = joinLeast(joined);
                int second = joinLeast(joined);
                weights[joined] = least + second;
            }
            for (int i = 0; i < MOST_SYMBOLS; i++) {
                lengths[i] = used == 1 ? weights[i] > 0 ? 1 : 0 : joinsOf(i);
            }
            assignCodes();
        }

        public void tellTable(BitWriter out) {
            for (int i = 0; i < symbols.count; i++) {
                out.tellBits(lengths[i], LENGTH_BITS);
            }
        }

        public void tellName(int symbol, BitWriter out) {
            out.tellBits(codes[symbol], lengths[symbol]);
        }

        public void readTable(BitReader in, int instances) {
            for (int i = 0; i < MOST_SYMBOLS; i++) {
                lengths[i] = i < symbols.count ? in.nextBits(LENGTH_BITS) : 0;
            }
            if (!areAllowed(instances)) {
                in.refuse(NOT_FULL);
            }
            assignCodes();
        }

        public int readName(BitReader in) {
            int longest = 0;
            for (int i = 0; i < symbols.count; i++) {
                longest = Math.max(longest, lengths[i]);
            }
            int code = 0;
            for (int length = 1; length <= longest; length++) {
                code = code << 1 | in.nextBit();
                int symbol = symbolOf(code, length);
                if (symbol != NONE) {
                    return symbol;
                }
            }
            in.refuse(NO_SYMBOL);
            return 0;
        }

        private int symbolOf(int code, int length) {
            for (int i = 0; i < symbols.count; i++) {
                if (lengths[i] == length && codes[i] == code) {
                    return i;
                }
            }
            return NONE;
        }

        private void weigh(Layout layout) {
            for (int i = 0; i < weights.length; i++) {
                weights[i] = 0;
                joinedTo[i] = NONE;
            }
            for (int i = 0; i < layout.count; i++) {
                weights[layout.symbolOf[i]]++;
            }
        }

        /** Joins the least of what is not joined yet, the earliest of equals: its weight. */
        private int joinLeast(int joined) {
            int least = NONE;
            for (int i = 0; i < joined; i++) {
                if (weights[i] > 0 && joinedTo[i] == NONE && (least == NONE || weights[i] < weights[least])) {
                    least = i;
                }
            }
            if (least == NONE) {
                return 0;
            }
            joinedTo[least] = joined;
            return weights[least];
        }

        private int joinsOf(int symbol) {
            int joins = 0;
            int joined = joinedTo[symbol];
            while (joins < MOST_LENGTH && joined != NONE) {
                joins++;
                joined = joinedTo[joined];
            }
            return joins;
        }

        private boolean areAllowed(int instances) {
            int whole = 1 << MOST_LENGTH;
            int sum = 0;
            int used = 0;
            for (int i = 0; i < symbols.count; i++) {
                if (lengths[i] > 0) {
                    sum += whole >> lengths[i];
                    used++;
                }
            }
            boolean isOneOfOneBit = used == 1 && sum == whole / 2;
            return sum == whole || isOneOfOneBit || used == 0 && instances == 0;
        }

        /** One more than the code before; a length's first code is that of the shorter ones, made longer. */
        private void assignCodes() {
            int next = 0;
            for (int length = 1; length <= MOST_LENGTH; length++) {
                next = next << 1;
                for (int i = 0; i < symbols.count; i++) {
                    if (lengths[i] == length) {
                        codes[i] = next;
                        next++;
                    }
                }
            }
        }
    }

    /** Tells a layout as bits; it has to be prepared for the layout's strips and counts first. */
    private static final class Teller {
        private final Names names;
        private final BitWriter out;

        private Teller(Names names, BitWriter out) {
            this.names = names;
            this.out = out;
        }

        private void prepare(Layout layout) {
            layout.arrange();
            names.suit(layout);
        }

        private int tellAll(Layout layout, boolean keep) {
            out.start(keep);
            out.tellNumber(layout.count);
            for (int i = 0; i < WAYS; i++) {
                int way = WAYS_AS_TOLD[i];
                out.tellBits(layout.ways[way], BITS_OF_WAY[way]);
            }
            names.tellTable(out);
            tellInstances(layout);
            return out.count;
        }

        private void tellInstances(Layout layout) {
            int log = layout.ways[LOG];
            int strip = BEFORE_ALL_STRIPS;
            int firstS = 0;
            int nextS = 0;
            for (int i = 0; i < layout.count; i++) {
                int instance = layout.sequence[i];
                int symbol = layout.symbolOf[instance];
                int s = layout.cornerS(instance);
                int t = layout.cornerT(instance);
                int ownStrip = t >> log;
                if (ownStrip == strip) {
                    out.tellBits(1, 1);
                    out.tellSigned(s - nextS);
                } else {
                    if (i > 0) {
                        out.tellBits(0, 1);
                    }
                    out.tellNumber(ownStrip - strip - 1);
                    out.tellSigned(s - firstS);
                    strip = ownStrip;
                    firstS = s;
                }
                out.tellBits(t - (strip << log), log);
                names.tellName(symbol, out);
                tellDiffers(layout.differs[instance], layout.symbols.sampleCount(symbol));
                nextS = layout.nextS(instance);
            }
            if (layout.count > 0) {
                out.tellBits(0, 1);
            }
        }

        private void tellDiffers(long differs, int samples) {
            out.tellBits(differs == 0 ? 0 : 1, 1);
            long rest = differs;
            int told = differs == 0 ? samples : 0;
            for (int turn = 0; turn <= samples && told < samples; turn++) {
                int run = Math.min(zerosBelowLowestOne(rest >>> told), samples - told);
                out.tellNumber(run);
                told += run;
                rest = ~rest;
            }
        }

        private static int zerosBelowLowestOne(long bits) {
            return Long.bitCount((bits & -bits) - 1);
        }
    }

    /** Reads a layout from bits. */
    private static final class Reader {
        private final Names names;
        private final BitReader in;

        private Reader(Names names, BitReader in) {
            this.names = names;
            this.in = in;
        }

        private int bitsRead() {
            return in.place;
        }

        /** The number by which it is refused, 0 without that. */
        private int readAll(Layout layout) {
            in.start();
            layout.empty();
            int count = in.nextNumber();
            if (count > MOST_INSTANCES) {
                in.refuse(TOO_MANY);
            }
            for (int i = 0; i < WAYS; i++) {
                int way = WAYS_AS_TOLD[i];
                layout.ways[way] = in.nextBits(BITS_OF_WAY[way]);
            }
            if (layout.ways[OPERATOR] > MOST_OF_WAY[OPERATOR]) {
                in.refuse(NO_OPERATOR);
            }
            names.readTable(in, count);
            readInstances(layout, count);
            in.readEnd();
            return in.refusal;
        }

        private void readInstances(Layout layout, int count) {
            int strip = BEFORE_ALL_STRIPS;
            int firstS = 0;
            boolean goesOn = false;
            for (int i = 0; i < count && !in.isRefused(); i++) {
                int s;
                if (goesOn) {
                    s = layout.nextS(i - 1) + in.nextSigned();
                } else {
                    strip += in.nextNumber() + 1;
                    s = firstS + in.nextSigned();
                    firstS = s;
                }
                readPlaced(layout, s, strip);
                readDiffers(layout);
                goesOn = in.nextBit() == 1;
            }
            if (goesOn) {
                in.refuse(TOO_MANY);
            }
        }

        /** What stands behind the S of an instance, up to its name. */
        private void readPlaced(Layout layout, int s, int strip) {
            int log = layout.ways[LOG];
            int t = (strip << log) + in.nextBits(log);
            int symbol = names.readName(in);
            if (!in.isRefused() && !layout.addByCorner(symbol, s, t)) {
                in.refuse(NO_PLACE);
            }
        }

        /** What stands behind the name of the instance that came last. */
        private void readDiffers(Layout layout) {
            if (in.nextBit() == 0 || layout.count == 0) {
                return;
            }
            int last = layout.count - 1;
            int samples = layout.symbols.sampleCount(layout.symbolOf[last]);
            int told = 0;
            for (int turn = 0; turn <= samples && told < samples; turn++) {
                int run = in.nextNumber();
                if (run > samples - told || run == 0 && turn > 0) {
                    in.refuse(WRONG_RUN);
                }
                if (in.isRefused()) {
                    return;
                }
                for (int i = told; i < told + run && turn % 2 == 1; i++) {
                    layout.differs[last] = withBit(layout.differs[last], i, true);
                }
                told += run;
            }
        }
    }
}
