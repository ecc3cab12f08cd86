import java.util.Arrays;

/**
 * Texts of bytes packed by matches and codes of unlike lengths into a published form (blocks that
 * are kept, of fixed codes, or of codes that are told), and unpacked from whatever bytes are there.
 */
public final class FlatBlocks {
    public static final int BAD = -1, TRUNCATED = 1, BAD_KIND = 2, BAD_KEPT = 3, BAD_CODES = 4, BAD_SYMBOL = 5, TOO_FAR = 6, FULL = 7;

    private static final int MOST_TEXT = 70_000, LEAST_BYTES = 16, MOST_BYTES = 80_000, MOST_CHAIN = 64;
    private static final int NO_ROOM = FULL - 100;

    private static final int KEPT = 0, FIXED = 1, TOLD = 2;
    private static final int END = 256, FIRST_MATCH = 257;
    private static final int SYMBOLS = 286, DISTANCES = 30, TELLING = 19;
    private static final int FIXED_SYMBOLS = 288, FIXED_DISTANCES = 32;
    private static final int SAME_AGAIN = 16, FEW_ZEROS = 17, MANY_ZEROS = 18;
    private static final int LONGEST_CODE = 15, LONGEST_TELLING_CODE = 7;
    private static final int SHORTEST_MATCH = 3, LONGEST_MATCH = 258, FARTHEST = 32_768;
    private static final int MOST_KEPT = 65_535;
    private static final int[] ORDER = {16, 17, 18, 0, 8, 7, 9, 6, 10, 5, 11, 4, 12, 3, 13, 2, 14, 1, 15};

    private final Row text;
    private final Row made;
    private final Row loaded;
    private final Row unpacked;
    private final Packer packer;
    private final Unpacker unpacker;

    public FlatBlocks(int text, int bytes, int chain) {
        int textRoom = within(text, 1, MOST_TEXT);
        int bytesRoom = within(bytes, LEAST_BYTES, MOST_BYTES);
        Row textRow = new Row(textRoom);
        Row madeRow = new Row(bytesRoom);
        Row loadedRow = new Row(bytesRoom);
        Row unpackedRow = new Row(textRoom);
        packer = new Packer(textRow, madeRow, within(chain, 1, MOST_CHAIN));
        unpacker = new Unpacker(loadedRow, unpackedRow);
        this.text = textRow;
        made = madeRow;
        loaded = loadedRow;
        unpacked = unpackedRow;
    }

    public boolean feed(int b) {
        return isByte(b) && text.add(b);
    }

    public int again(int bytes, int times) {
        if (bytes < 1 || bytes > LONGEST_MATCH || times < 1 || times > MOST_TEXT) {
            return BAD;
        }
        return text.repeat(bytes, bytes * times) ? text.size : BAD;
    }

    public int pack() {
        return packer.packAll() ? made.size : NO_ROOM;
    }

    public int packed(int i) {
        return made.get(i);
    }

    public boolean load(int b) {
        return isByte(b) && loaded.add(b);
    }

    public int take() {
        loaded.become(made);
        return loaded.size;
    }

    public int unpack() {
        unpacked.clear();
        int why = unpacker.readBlocks();
        if (why != 0) {
            unpacked.clear();
        }
        return why;
    }

    public int out(int i) {
        return unpacked.get(i);
    }

    public int bit() {
        return unpacker.bitsTaken();
    }

    public boolean same() {
        return unpacked.isLike(text);
    }

    public void reset() {
        text.clear();
        made.clear();
        loaded.clear();
        unpacked.clear();
        packer.forget();
    }

    public int count(int what) {
        switch (what) {
            case 0:
                return text.size;
            case 1:
                return made.size;
            case 2:
                return loaded.size;
            case 3:
                return unpacked.size;
            case 4:
                return packer.matches;
            default:
                return BAD;
        }
    }

    private static int within(int value, int least, int most) {
        return Math.max(least, Math.min(most, value));
    }

    private static boolean isByte(int b) {
        return b >= 0 && b <= 255;
    }

    private static int lengthBits(int k) {
        return k < 8 || k == 28 ? 0 : k / 4 - 1;
    }

    private static int leastLength(int k) {
        if (k == 28) {
            return LONGEST_MATCH;
        }
        return SHORTEST_MATCH + (k < 8 ? k : (4 + k % 4) << lengthBits(k));
    }

    private static int lengthSymbol(int length) {
        if (length == LONGEST_MATCH) {
            return 28;
        }
        int above = length - SHORTEST_MATCH;
        int bits = bitsToCut(above, 8);
        return 4 * bits + (above >> bits);
    }

    private static int distanceBits(int d) {
        return d < 4 ? 0 : d / 2 - 1;
    }

    private static int leastDistance(int d) {
        return 1 + (d < 4 ? d : (2 + d % 2) << distanceBits(d));
    }

    private static int distanceSymbol(int distance) {
        int above = distance - 1;
        int bits = bitsToCut(above, 4);
        return 2 * bits + (above >> bits);
    }

    /** How many low bits go into the number behind a symbol, so that what is left is below the limit. */
    private static int bitsToCut(int value, int limit) {
        int bits = 0;
        while (bits < LONGEST_CODE && value >> bits >= limit) {
            bits++;
        }
        return bits;
    }

    /** Bytes in a room that is made once, since all calls of a run share what memory there is. */
    private static final class Row {
        final byte[] bytes;
        int size;

        Row(int room) {
            bytes = new byte[room];
        }

        int room() {
            return bytes.length;
        }

        boolean add(int b) {
            if (size >= bytes.length) {
                return false;
            }
            bytes[size] = (byte) b;
            size++;
            return true;
        }

        int get(int i) {
            return i >= 0 && i < size ? bytes[i] & 255 : BAD;
        }

        /**
         * Byte by byte, so that bytes that have just come can be the source of later ones; false, and
         * nothing comes, if there are not so many bytes before or there is no room for all.
         */
        boolean repeat(int distance, int length) {
            if (distance < 1 || distance > size || length > bytes.length - size) {
                return false;
            }
            for (int i = 0; i < length; i++) {
                bytes[size] = bytes[size - distance];
                size++;
            }
            return true;
        }

        void become(Row other) {
            size = Math.min(other.size, bytes.length);
            System.arraycopy(other.bytes, 0, bytes, 0, size);
        }

        boolean isLike(Row other) {
            if (size != other.size) {
                return false;
            }
            for (int i = 0; i < size; i++) {
                if (bytes[i] != other.bytes[i]) {
                    return false;
                }
            }
            return true;
        }

        void clear() {
            size = 0;
        }
    }

    private static final class BitsIn {
        int all;
        int taken;
        private final Row row;

        BitsIn(Row row) {
            this.row = row;
        }

        void start() {
            all = 8 * row.size;
            taken = 0;
        }

        /** The next bit, or BAD at the end. */
        int next() {
            if (taken >= all) {
                return BAD;
            }
            int bit = row.bytes[taken / 8] >> taken % 8 & 1;
            taken++;
            return bit;
        }

        /** A number, or BAD if the bytes end before it does: what was there of it is taken then. */
        int number(int bits) {
            if (bits > all - taken) {
                taken = all;
                return BAD;
            }
            int value = 0;
            for (int i = 0; i < bits; i++) {
                value |= next() << i;
            }
            return value;
        }

        void toWholeByte() {
            taken = (taken + 7) / 8 * 8;
        }
    }

    private static final class BitsOut {
        private final Row row;
        private int held;
        private int filled;

        BitsOut(Row row) {
            this.row = row;
        }

        void start() {
            row.clear();
            held = 0;
            filled = 0;
        }

        void number(int value, int bits) {
            for (int i = 0; i < bits; i++) {
                put(value >> i & 1);
            }
        }

        void symbol(Codes codes, int symbol) {
            int code = codes.codes[symbol];
            for (int i = codes.lengths[symbol] - 1; i >= 0; i--) {
                put(code >> i & 1);
            }
        }

        void toWholeByte() {
            int left = (8 - filled) % 8;
            for (int i = 0; i < left; i++) {
                put(0);
            }
        }

        private void put(int bit) {
            held |= bit << filled;
            filled++;
            if (filled == 8) {
                row.add(held);
                held = 0;
                filled = 0;
            }
        }
    }

    /** The codes that come from lengths, for reading and for writing. */
    private static final class Codes {
        final int[] lengths;
        final int[] codes;
        private final int[] byCode;
        private final int[] ofLength = new int[LONGEST_CODE + 1];
        private final int[] firstCode = new int[LONGEST_CODE + 1];
        private final int[] firstPlace = new int[LONGEST_CODE + 1];
        private final int[] given = new int[LONGEST_CODE + 1];
        private int longest;

        Codes(int symbols) {
            lengths = new int[symbols];
            codes = new int[symbols];
            byCode = new int[symbols];
        }

        /** Lengths from a part of a row; symbols above that part have none. */
        void tell(int[] row, int from, int symbols) {
            Arrays.fill(lengths, 0);
            System.arraycopy(row, from, lengths, 0, symbols);
        }

        void fill(int from, int to, int length) {
            Arrays.fill(lengths, from, to, length);
        }

        void assign() {
            countLengths();
            for (int length = 1; length <= LONGEST_CODE; length++) {
                firstCode[length] = 2 * (firstCode[length - 1] + ofLength[length - 1]);
                firstPlace[length] = firstPlace[length - 1] + ofLength[length - 1];
            }
            Arrays.fill(given, 0);
            for (int symbol = 0; symbol < lengths.length; symbol++) {
                int length = lengths[symbol];
                if (length > 0) {
                    codes[symbol] = firstCode[length] + given[length];
                    byCode[firstPlace[length] + given[length]] = symbol;
                    given[length]++;
                }
            }
        }

        private void countLengths() {
            Arrays.fill(ofLength, 0);
            longest = 0;
            for (int length : lengths) {
                if (length > 0) {
                    ofLength[length]++;
                    longest = Math.max(longest, length);
                }
            }
        }

        boolean areComplete() {
            int left = 1;
            for (int length = 1; length <= LONGEST_CODE; length++) {
                left = 2 * left - ofLength[length];
            }
            return left == 0;
        }

        boolean areOneAloneOfOneBit() {
            return longest == 1 && ofLength[1] == 1;
        }

        boolean areNone() {
            return longest == 0;
        }

        int lastCoded() {
            int last = lengths.length - 1;
            while (last >= 0 && lengths[last] == 0) {
                last--;
            }
            return last;
        }

        /** A symbol, or the reason why there is none, less than 0. */
        int read(BitsIn in) {
            int code = 0;
            for (int length = 1; length <= longest; length++) {
                int bit = in.next();
                if (bit < 0) {
                    return -TRUNCATED;
                }
                code = 2 * code + bit;
                int rank = code - firstCode[length];
                if (rank >= 0 && rank < ofLength[length]) {
                    return byCode[firstPlace[length] + rank];
                }
            }
            return -BAD_SYMBOL;
        }

        int bitsFor(int[] counts) {
            int bits = 0;
            for (int symbol = 0; symbol < counts.length; symbol++) {
                bits += counts[symbol] * lengths[symbol];
            }
            return bits;
        }
    }

    /** Makes lengths from how often symbols come. */
    private static final class Depths {
        private final int[] counts = new int[SYMBOLS];
        private final int[] sorted = new int[SYMBOLS];
        /* Single ones come first, as sorted, then those put together, as they are made. */
        private final int[] weight = new int[2 * SYMBOLS];
        private final int[] above = new int[2 * SYMBOLS];
        private final int[] depth = new int[2 * SYMBOLS];
        private int single;

        void measure(int[] howOften, int longest, int[] lengths) {
            System.arraycopy(howOften, 0, counts, 0, howOften.length);
            Arrays.fill(lengths, 0);
            sort(howOften.length);
            if (single == 1) {
                lengths[sorted[0]] = 1;
                return;
            }
            // A count is an int, so that after 32 halvings all are 1 and the depths are as low as can be.
            for (int round = 0; round < 32 && deepest() > longest; round++) {
                halve(howOften.length);
                sort(howOften.length);
            }
            for (int i = 0; i < single; i++) {
                lengths[sorted[i]] = depth[i];
            }
        }

        private void halve(int symbols) {
            for (int symbol = 0; symbol < symbols; symbol++) {
                counts[symbol] = (counts[symbol] + 1) / 2;
            }
        }

        private void sort(int symbols) {
            single = 0;
            for (int symbol = 0; symbol < symbols; symbol++) {
                if (counts[symbol] > 0) {
                    insert(symbol);
                }
            }
        }

        private void insert(int symbol) {
            int place = single;
            while (place > 0 && counts[sorted[place - 1]] > counts[symbol]) {
                sorted[place] = sorted[place - 1];
                place--;
            }
            sorted[place] = symbol;
            single++;
        }

        private int deepest() {
            for (int i = 0; i < single; i++) {
                weight[i] = counts[sorted[i]];
            }
            join();
            int root = 2 * single - 2;
            int deepest = 0;
            if (root >= 0) {
                depth[root] = 0;
            }
            for (int i = root - 1; i >= 0; i--) {
                depth[i] = depth[above[i]] + 1;
                deepest = Math.max(deepest, depth[i]);
            }
            return deepest;
        }

        /** Sums never fall, so the rarest one is always the first left of one of the two rows. */
        private void join() {
            int nextSingle = 0;
            int nextJoined = single;
            for (int joined = single; joined < 2 * single - 1; joined++) {
                weight[joined] = 0;
                for (int part = 0; part < 2; part++) {
                    boolean takeSingle = nextSingle < single
                        && (nextJoined >= joined || weight[nextSingle] <= weight[nextJoined]);
                    int rarest = takeSingle ? nextSingle++ : nextJoined++;
                    weight[joined] += weight[rarest];
                    above[rarest] = joined;
                }
            }
        }
    }

    /** Finds the match for a place of the text. */
    private static final class Matcher {
        private static final int SLOTS = 4096;

        private final Row text;
        private final int chain;
        /* Places are held with 1 added, so that an empty row says "none". */
        private final int[] latest = new int[SLOTS];
        private final int[] earlier;
        private int linked;
        int length;
        int distance;

        Matcher(Row text, int chain) {
            this.text = text;
            this.chain = chain;
            earlier = new int[text.room()];
        }

        void forget() {
            linked = 0;
            Arrays.fill(latest, 0);
        }

        /** A text only grows until it is forgotten: places that are linked already stay as they are. */
        void link() {
            for (; linked + SHORTEST_MATCH <= text.size; linked++) {
                int slot = slot(linked);
                earlier[linked] = latest[slot];
                latest[slot] = linked + 1;
            }
        }

        private int slot(int place) {
            int three = text.get(place) << 16 | text.get(place + 1) << 8 | text.get(place + 2);
            return three * 0x9E3779B1 >>> 20;
        }

        void find(int place) {
            length = 0;
            int most = Math.min(LONGEST_MATCH, text.size - place);
            if (most < SHORTEST_MATCH) {
                return;
            }
            int tried = 0;
            int from = earlier[place] - 1;
            // Each step goes back by one place at least, so there are never more steps than that.
            for (int i = 0; i < FARTHEST && from >= 0 && place - from <= FARTHEST; i++) {
                int alike = alike(from, place, most);
                // Other bytes may share the slot: those places do not count as tried.
                if (alike >= SHORTEST_MATCH) {
                    tried++;
                    if (alike > length) {
                        length = alike;
                        distance = place - from;
                    }
                }
                if (tried == chain || length == most) {
                    return;
                }
                from = earlier[from] - 1;
            }
        }

        private int alike(int from, int place, int most) {
            int alike = 0;
            while (alike < most && text.bytes[from + alike] == text.bytes[place + alike]) {
                alike++;
            }
            return alike;
        }
    }

    /** The text as bytes and matches, and how often each symbol comes. */
    private static final class Tokens {
        final int[] symbolCounts = new int[SYMBOLS];
        final int[] distanceCounts = new int[DISTANCES];
        int size;
        int matches;
        int numberBits;
        private final Row text;
        private final Matcher matcher;
        /* A byte stands for itself; a match is its length, 16 bits higher, and its distance. */
        private final int[] tokens;

        Tokens(Row text, int chain) {
            this.text = text;
            matcher = new Matcher(text, chain);
            tokens = new int[text.room()];
        }

        void forget() {
            matcher.forget();
        }

        int lengthOf(int i) {
            return tokens[i] >>> 16;
        }

        int lowPartOf(int i) {
            return tokens[i] & 0xFFFF;
        }

        void gather() {
            size = 0;
            matches = 0;
            numberBits = 0;
            Arrays.fill(symbolCounts, 0);
            Arrays.fill(distanceCounts, 0);
            symbolCounts[END] = 1;
            matcher.link();
            int place = 0;
            for (int i = 0; i < text.size && place < text.size; i++) {
                matcher.find(place);
                if (matcher.length > 0) {
                    addMatch(matcher.length, matcher.distance);
                    place += matcher.length;
                } else {
                    addByte(text.get(place));
                    place++;
                }
            }
        }

        private void addByte(int b) {
            tokens[size] = b;
            size++;
            symbolCounts[b]++;
        }

        private void addMatch(int length, int distance) {
            tokens[size] = length << 16 | distance;
            size++;
            matches++;
            int k = lengthSymbol(length);
            int d = distanceSymbol(distance);
            symbolCounts[FIRST_MATCH + k]++;
            distanceCounts[d]++;
            numberBits += lengthBits(k) + distanceBits(d);
        }
    }

    /** What a block of kind 2 tells of its codes, before its symbols. */
    private static final class Telling {
        private final int[] row = new int[SYMBOLS + DISTANCES];
        /* A symbol, and 8 bits higher the number behind it. */
        private final int[] cells = new int[SYMBOLS + DISTANCES];
        private final int[] counts = new int[TELLING];
        private final Codes codes = new Codes(TELLING);
        private int symbolsTold;
        private int distancesTold;
        private int rowSize;
        private int size;
        private int lengthsTold;

        void plan(Codes symbols, Codes distances, Depths depths) {
            symbolsTold = Math.max(FIRST_MATCH, symbols.lastCoded() + 1);
            distancesTold = Math.max(1, distances.lastCoded() + 1);
            rowSize = symbolsTold + distancesTold;
            System.arraycopy(symbols.lengths, 0, row, 0, symbolsTold);
            System.arraycopy(distances.lengths, 0, row, symbolsTold, distancesTold);
            gatherCells();
            depths.measure(counts, LONGEST_TELLING_CODE, codes.lengths);
            codes.assign();
            lengthsTold = TELLING;
            while (lengthsTold > 4 && codes.lengths[ORDER[lengthsTold - 1]] == 0) {
                lengthsTold--;
            }
        }

        private void gatherCells() {
            size = 0;
            Arrays.fill(counts, 0);
            int place = 0;
            for (int i = 0; i < rowSize && place < rowSize; i++) {
                int run = runFrom(place);
                place += row[place] == 0 ? addZeros(run) : addLengths(row[place], run);
            }
        }

        private int runFrom(int place) {
            int end = place + 1;
            while (end < rowSize && row[end] == row[place]) {
                end++;
            }
            return end - place;
        }

        /** How many of the run are told. */
        private int addZeros(int run) {
            if (run >= 11) {
                int times = Math.min(run, 138);
                addCell(MANY_ZEROS, times - 11);
                return times;
            }
            if (run >= 3) {
                addCell(FEW_ZEROS, run - 3);
                return run;
            }
            addCell(0, 0);
            return 1;
        }

        /** How many of the run are told. */
        private int addLengths(int length, int run) {
            addCell(length, 0);
            int follow = run - 1;
            while (follow >= 3) {
                int times = Math.min(follow, 6);
                addCell(SAME_AGAIN, times - 3);
                follow -= times;
            }
            return run - follow;
        }

        private void addCell(int symbol, int number) {
            cells[size] = number << 8 | symbol;
            size++;
            counts[symbol]++;
        }

        int bits() {
            int bits = 14 + 3 * lengthsTold + codes.bitsFor(counts);
            for (int symbol = SAME_AGAIN; symbol <= MANY_ZEROS; symbol++) {
                bits += counts[symbol] * numberBitsOf(symbol);
            }
            return bits;
        }

        void write(BitsOut out) {
            out.number(symbolsTold - 257, 5);
            out.number(distancesTold - 1, 5);
            out.number(lengthsTold - 4, 4);
            for (int i = 0; i < lengthsTold; i++) {
                out.number(codes.lengths[ORDER[i]], 3);
            }
            for (int i = 0; i < size; i++) {
                int symbol = cells[i] & 255;
                out.symbol(codes, symbol);
                out.number(cells[i] >> 8, numberBitsOf(symbol));
            }
        }

        static int numberBitsOf(int symbol) {
            switch (symbol) {
                case SAME_AGAIN:
                    return 2;
                case FEW_ZEROS:
                    return 3;
                case MANY_ZEROS:
                    return 7;
                default:
                    return 0;
            }
        }
    }

    private static final class Packer {
        int matches;
        private final Row text;
        private final Row made;
        private final Tokens tokens;
        private final Depths depths = new Depths();
        private final Codes symbols = new Codes(SYMBOLS);
        private final Codes distances = new Codes(DISTANCES);
        private final Telling telling = new Telling();
        private final BitsOut out;

        Packer(Row text, Row made, int chain) {
            this.text = text;
            this.made = made;
            tokens = new Tokens(text, chain);
            out = new BitsOut(made);
        }

        void forget() {
            matches = 0;
            tokens.forget();
        }

        /** False if there is no room; the size is known before a bit is written, so all stays then. */
        boolean packAll() {
            plan();
            int toldSize = (toldBits() + 7) / 8;
            int keptSize = text.size + 5 * keptBlocks();
            if (Math.min(toldSize, keptSize) > made.room()) {
                return false;
            }
            out.start();
            if (keptSize < toldSize) {
                matches = 0;
                writeKept();
            } else {
                matches = tokens.matches;
                writeTold();
            }
            return true;
        }

        private void plan() {
            tokens.gather();
            depths.measure(tokens.symbolCounts, LONGEST_CODE, symbols.lengths);
            symbols.assign();
            depths.measure(tokens.distanceCounts, LONGEST_CODE, distances.lengths);
            distances.assign();
            telling.plan(symbols, distances, depths);
        }

        private int toldBits() {
            return 3 + telling.bits() + symbols.bitsFor(tokens.symbolCounts)
                + distances.bitsFor(tokens.distanceCounts) + tokens.numberBits;
        }

        private int keptBlocks() {
            return Math.max(1, (text.size + MOST_KEPT - 1) / MOST_KEPT);
        }

        private void writeKept() {
            int blocks = keptBlocks();
            for (int block = 0; block < blocks; block++) {
                int from = block * MOST_KEPT;
                int length = Math.min(MOST_KEPT, text.size - from);
                out.number(block == blocks - 1 ? 1 : 0, 1);
                out.number(KEPT, 2);
                out.toWholeByte();
                out.number(length, 16);
                out.number(~length, 16);
                for (int i = 0; i < length; i++) {
                    made.add(text.get(from + i));
                }
            }
        }

        private void writeTold() {
            out.number(1, 1);
            out.number(TOLD, 2);
            telling.write(out);
            for (int i = 0; i < tokens.size; i++) {
                if (tokens.lengthOf(i) == 0) {
                    out.symbol(symbols, tokens.lowPartOf(i));
                } else {
                    writeMatch(tokens.lengthOf(i), tokens.lowPartOf(i));
                }
            }
            out.symbol(symbols, END);
            out.toWholeByte();
        }

        private void writeMatch(int length, int distance) {
            int k = lengthSymbol(length);
            out.symbol(symbols, FIRST_MATCH + k);
            out.number(length - leastLength(k), lengthBits(k));
            int d = distanceSymbol(distance);
            out.symbol(distances, d);
            out.number(distance - leastDistance(d), distanceBits(d));
        }
    }

    /** Each step answers 0, or the reason why unpacking ends there. */
    private static final class Unpacker {
        private final BitsIn in;
        private final Row unpacked;
        private final Codes symbols = new Codes(FIXED_SYMBOLS);
        private final Codes distances = new Codes(FIXED_DISTANCES);
        private final Codes telling = new Codes(TELLING);
        private final int[] row = new int[SYMBOLS + DISTANCES];

        Unpacker(Row loaded, Row unpacked) {
            in = new BitsIn(loaded);
            this.unpacked = unpacked;
        }

        int bitsTaken() {
            return in.taken;
        }

        int readBlocks() {
            in.start();
            // A block takes bits, so there are never more blocks than bits.
            for (int block = 0; block <= in.all; block++) {
                int last = in.number(1);
                int kind = in.number(2);
                if (kind < 0) {
                    return TRUNCATED;
                }
                int why = readBlock(kind);
                if (why != 0 || last == 1) {
                    return why;
                }
            }
            return TRUNCATED;
        }

        private int readBlock(int kind) {
            switch (kind) {
                case KEPT:
                    return readKept();
                case FIXED:
                    fixCodes();
                    return readSymbols();
                case TOLD:
                    return readTold();
                default:
                    return BAD_KIND;
            }
        }

        private int readKept() {
            in.toWholeByte();
            int length = in.number(16);
            int turned = in.number(16);
            if (turned < 0) {
                return TRUNCATED;
            }
            if ((length ^ turned) != 0xFFFF) {
                return BAD_KEPT;
            }
            for (int i = 0; i < length; i++) {
                int b = in.number(8);
                if (b < 0) {
                    return TRUNCATED;
                }
                if (!unpacked.add(b)) {
                    return FULL;
                }
            }
            return 0;
        }

        private void fixCodes() {
            symbols.fill(0, 144, 8);
            symbols.fill(144, 256, 9);
            symbols.fill(256, 280, 7);
            symbols.fill(280, FIXED_SYMBOLS, 8);
            symbols.assign();
            distances.fill(0, FIXED_DISTANCES, 5);
            distances.assign();
        }

        private int readTold() {
            int numbers = in.number(14);
            if (numbers < 0) {
                return TRUNCATED;
            }
            int symbolsTold = 257 + (numbers & 31);
            int distancesTold = 1 + (numbers >> 5 & 31);
            if (symbolsTold > SYMBOLS || distancesTold > DISTANCES) {
                return BAD_CODES;
            }
            int why = readTelling(4 + (numbers >> 10));
            if (why == 0) {
                why = readLengths(symbolsTold + distancesTold);
            }
            if (why != 0) {
                return why;
            }
            symbols.tell(row, 0, symbolsTold);
            symbols.assign();
            distances.tell(row, symbolsTold, distancesTold);
            distances.assign();
            return areUsable() ? readSymbols() : BAD_CODES;
        }

        private boolean areUsable() {
            return symbols.lengths[END] > 0
                && (symbols.areComplete() || symbols.areOneAloneOfOneBit())
                && (distances.areComplete() || distances.areOneAloneOfOneBit() || distances.areNone());
        }

        private int readTelling(int lengthsTold) {
            telling.fill(0, TELLING, 0);
            for (int i = 0; i < lengthsTold && i < TELLING; i++) {
                int length = in.number(3);
                if (length < 0) {
                    return TRUNCATED;
                }
                telling.lengths[ORDER[i]] = length;
            }
            telling.assign();
            return telling.areComplete() ? 0 : BAD_CODES;
        }

        private int readLengths(int all) {
            int done = 0;
            for (int i = 0; i < all && done < all; i++) {
                int symbol = telling.read(in);
                if (symbol < 0) {
                    return -symbol;
                }
                int number = in.number(Telling.numberBitsOf(symbol));
                if (number < 0) {
                    return TRUNCATED;
                }
                int times = timesOf(symbol, number);
                if (symbol == SAME_AGAIN && done == 0 || times > all - done) {
                    return BAD_CODES;
                }
                int length = symbol < SAME_AGAIN ? symbol : symbol == SAME_AGAIN ? row[done - 1] : 0;
                Arrays.fill(row, done, done + times, length);
                done += times;
            }
            return 0;
        }

        private static int timesOf(int symbol, int number) {
            if (symbol < SAME_AGAIN) {
                return 1;
            }
            return number + (symbol == MANY_ZEROS ? 11 : 3);
        }

        private int readSymbols() {
            // A symbol takes bits, so there are never more symbols than bits.
            for (int i = 0; i <= in.all; i++) {
                int symbol = symbols.read(in);
                if (symbol < 0) {
                    return -symbol;
                }
                if (symbol == END) {
                    return 0;
                }
                int why = symbol < END ? addByte(symbol) : readMatch(symbol - FIRST_MATCH);
                if (why != 0) {
                    return why;
                }
            }
            return TRUNCATED;
        }

        private int addByte(int b) {
            return unpacked.add(b) ? 0 : FULL;
        }

        private int readMatch(int k) {
            if (k >= SYMBOLS - FIRST_MATCH) {
                return BAD_SYMBOL;
            }
            int more = in.number(lengthBits(k));
            if (more < 0) {
                return TRUNCATED;
            }
            int d = distances.read(in);
            if (d < 0) {
                return -d;
            }
            if (d >= DISTANCES) {
                return BAD_SYMBOL;
            }
            int farther = in.number(distanceBits(d));
            if (farther < 0) {
                return TRUNCATED;
            }
            int distance = leastDistance(d) + farther;
            if (distance > unpacked.size) {
                return TOO_FAR;
            }
            // A text that did not come whole is no text, so that a match that does not fit may be left out.
            return unpacked.repeat(distance, leastLength(k) + more) ? 0 : FULL;
        }
    }
}
