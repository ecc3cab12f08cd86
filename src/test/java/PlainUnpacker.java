import java.util.ArrayList;
import java.util.Arrays;
import java.util.HashMap;
import java.util.List;
import java.util.Map;

/**
 * Unpacking as the document tells it, done in the slowest and plainest way, to compare with: bits and
 * codes are characters, and the first thing that cannot be is thrown.
 */
final class PlainUnpacker {
    private static final int[] ORDER = {16, 17, 18, 0, 8, 7, 9, 6, 10, 5, 11, 4, 12, 3, 13, 2, 14, 1, 15};

    final int why;
    final int bit;
    final int[] text;

    private final List<Integer> unpacked = new ArrayList<>();
    private final String bits;
    private final int room;
    private int place;

    private static final class End extends RuntimeException {
        private static final long serialVersionUID = 1;
        final int why;

        End(int why) {
            super(null, null, false, false);
            this.why = why;
        }
    }

    PlainUnpacker(int[] bytes, int room) {
        StringBuilder all = new StringBuilder();
        for (int b : bytes) {
            all.append(PlainPacker.number(b, 8));
        }
        bits = all.toString();
        this.room = room;
        why = whyNot();
        bit = place;
        text = why == 0 ? unpacked.stream().mapToInt(Integer::intValue).toArray() : new int[0];
    }

    private int whyNot() {
        try {
            boolean last = false;
            while (!last) {
                last = next() == '1';
                block(number(2));
            }
            return 0;
        } catch (End end) {
            return end.why;
        }
    }

    private static void refuse(boolean wrong, int why) {
        if (wrong) {
            throw new End(why);
        }
    }

    private char next() {
        refuse(place == bits.length(), FlatBlocks.TRUNCATED);
        return bits.charAt(place++);
    }

    private int number(int count) {
        StringBuilder highFirst = new StringBuilder("0");
        for (int i = 0; i < count; i++) {
            highFirst.insert(1, next());
        }
        return Integer.parseInt(highFirst.toString(), 2);
    }

    private void put(int b) {
        refuse(unpacked.size() == room, FlatBlocks.FULL);
        unpacked.add(b);
    }

    private void block(int kind) {
        refuse(kind == 3, FlatBlocks.BAD_KIND);
        if (kind == 0) {
            kept();
        } else if (kind == 1) {
            fixed();
        } else {
            told();
        }
    }

    private void kept() {
        while (place % 8 != 0) {
            next();
        }
        int length = number(16);
        refuse(number(16) != 65_535 - length, FlatBlocks.BAD_KEPT);
        for (int i = 0; i < length; i++) {
            put(number(8));
        }
    }

    private void fixed() {
        int[] symbols = new int[288];
        for (int symbol = 0; symbol < 288; symbol++) {
            symbols[symbol] = symbol <= 143 ? 8 : symbol <= 255 ? 9 : symbol <= 279 ? 7 : 8;
        }
        symbols(symbols, Packs.like(5, 32));
    }

    private void told() {
        int symbolsTold = 257 + number(5);
        int distancesTold = 1 + number(5);
        int lengthsTold = 4 + number(4);
        refuse(symbolsTold > 286 || distancesTold > 30, FlatBlocks.BAD_CODES);
        int[] lengths = new int[19];
        for (int i = 0; i < lengthsTold; i++) {
            lengths[ORDER[i]] = number(3);
        }
        refuse(!areComplete(lengths), FlatBlocks.BAD_CODES);
        int[] row = row(symbolsTold + distancesTold, lengths);
        int[] symbols = Arrays.copyOf(row, symbolsTold);
        int[] distances = Arrays.copyOfRange(row, symbolsTold, row.length);
        refuse(symbols[256] == 0, FlatBlocks.BAD_CODES);
        refuse(!areComplete(symbols) && !isOneAlone(symbols), FlatBlocks.BAD_CODES);
        boolean none = Arrays.stream(distances).sum() == 0;
        refuse(!areComplete(distances) && !isOneAlone(distances) && !none, FlatBlocks.BAD_CODES);
        symbols(symbols, distances);
    }

    private int[] row(int size, int[] lengths) {
        Map<String, Integer> codes = codesOf(lengths);
        List<Integer> row = new ArrayList<>();
        while (row.size() < size) {
            int symbol = symbol(codes);
            int times = symbol < 16 ? 1 : symbol == 16 ? 3 + number(2) : symbol == 17 ? 3 + number(3) : 11 + number(7);
            refuse(symbol == 16 && row.isEmpty(), FlatBlocks.BAD_CODES);
            refuse(row.size() + times > size, FlatBlocks.BAD_CODES);
            int length = symbol < 16 ? symbol : symbol == 16 ? row.get(row.size() - 1) : 0;
            for (int i = 0; i < times; i++) {
                row.add(length);
            }
        }
        return row.stream().mapToInt(Integer::intValue).toArray();
    }

    /** Of the rows of 15 bits, a code of so many bits begins 2 to the power of 15 less so many. */
    private static boolean areComplete(int[] lengths) {
        return Arrays.stream(lengths).filter(length -> length > 0).map(length -> 1 << 15 - length).sum() == 1 << 15;
    }

    private static boolean isOneAlone(int[] lengths) {
        return Arrays.stream(lengths).sum() == 1;
    }

    private static Map<String, Integer> codesOf(int[] lengths) {
        String[] codes = PlainPacker.codesOf(lengths);
        Map<String, Integer> symbols = new HashMap<>();
        for (int symbol = 0; symbol < lengths.length; symbol++) {
            if (lengths[symbol] > 0) {
                symbols.put(codes[symbol], symbol);
            }
        }
        return symbols;
    }

    private int symbol(Map<String, Integer> codes) {
        int longest = codes.keySet().stream().mapToInt(String::length).max().orElse(0);
        String read = "";
        while (!codes.containsKey(read)) {
            refuse(read.length() == longest, FlatBlocks.BAD_SYMBOL);
            read += next();
        }
        return codes.get(read);
    }

    private void symbols(int[] symbolLengths, int[] distanceLengths) {
        Map<String, Integer> symbols = codesOf(symbolLengths);
        Map<String, Integer> distances = codesOf(distanceLengths);
        int symbol = symbol(symbols);
        while (symbol != 256) {
            if (symbol < 256) {
                put(symbol);
            } else {
                match(symbol, distances);
            }
            symbol = symbol(symbols);
        }
    }

    private void match(int symbol, Map<String, Integer> distances) {
        refuse(symbol >= 286, FlatBlocks.BAD_SYMBOL);
        int k = symbol - 257;
        int e = k / 4 - 1;
        int length = k <= 7 ? 3 + k : k == 28 ? 258 : 3 + (4 + k % 4) * (1 << e) + number(e);
        int d = symbol(distances);
        refuse(d >= 30, FlatBlocks.BAD_SYMBOL);
        e = d / 2 - 1;
        int distance = d <= 3 ? 1 + d : 1 + (2 + d % 2) * (1 << e) + number(e);
        refuse(distance > unpacked.size(), FlatBlocks.TOO_FAR);
        for (int i = 0; i < length; i++) {
            put(unpacked.get(unpacked.size() - distance));
        }
    }
}
