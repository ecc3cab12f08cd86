import java.util.ArrayList;
import java.util.Arrays;
import java.util.List;
import java.util.stream.IntStream;

/**
 * Packing as the document tells it, done in the slowest and plainest way, to compare with: every
 * earlier place is looked at, the two rarest are searched for each time, bits are characters.
 */
final class PlainPacker {
    private static final int[] ORDER = {16, 17, 18, 0, 8, 7, 9, 6, 10, 5, 11, 4, 12, 3, 13, 2, 14, 1, 15};

    final int[] bytes;
    final int matches;
    final int toldSize;
    final int keptSize;
    /** A byte, or a length and a distance. */
    final List<int[]> tokens = new ArrayList<>();
    /** A symbol by which lengths are told, the number behind it, how many bits that has. */
    List<int[]> cells = new ArrayList<>();
    int[] symbolLengths;
    int[] distanceLengths;
    int symbolsTold;
    int distancesTold;
    int lengthsTold;
    /** The greatest depths of symbols, of distance symbols and of lengths, before any count is halved. */
    int symbolDepth;
    int distanceDepth;
    int lengthDepth;

    private final int[] text;
    private final int chain;

    PlainPacker(int[] text, int chain) {
        this.text = text;
        this.chain = chain;
        int[] told = toBytes(toldBits());
        int[] kept = kept();
        toldSize = told.length;
        keptSize = kept.length;
        bytes = keptSize < toldSize ? kept : told;
        int found = 0;
        for (int[] token : tokens) {
            found += token.length - 1;
        }
        matches = keptSize < toldSize ? 0 : found;
    }

    private void findTokens() {
        int place = 0;
        while (place < text.length) {
            int[] match = matchAt(place);
            tokens.add(match == null ? new int[] {text[place]} : match);
            place += match == null ? 1 : match[0];
        }
    }

    private int[] matchAt(int place) {
        int[] best = null;
        int tried = 0;
        for (int from = place - 1; from >= 0 && place - from <= 32768 && tried < chain; from--) {
            int length = 0;
            while (length < 258 && place + length < text.length && text[from + length] == text[place + length]) {
                length++;
            }
            if (length >= 3) {
                tried++;
                if (best == null || length > best[0]) {
                    best = new int[] {length, place - from};
                }
            }
        }
        return best;
    }

    private String toldBits() {
        findTokens();
        StringBuilder body = new StringBuilder();
        int[] symbolCounts = new int[286];
        int[] distanceCounts = new int[30];
        symbolCounts[256] = 1;
        for (int[] token : tokens) {
            if (token.length == 1) {
                symbolCounts[token[0]]++;
            } else {
                symbolCounts[257 + lengthRow(token[0])[0]]++;
                distanceCounts[distanceRow(token[1])[0]]++;
            }
        }
        symbolLengths = lengthsOf(symbolCounts, 15);
        symbolDepth = greatest(depthsOf(symbolCounts));
        distanceLengths = lengthsOf(distanceCounts, 15);
        distanceDepth = greatest(depthsOf(distanceCounts));
        String[] symbolCodes = codesOf(symbolLengths);
        String[] distanceCodes = codesOf(distanceLengths);
        for (int[] token : tokens) {
            if (token.length == 1) {
                body.append(symbolCodes[token[0]]);
            } else {
                int[] k = lengthRow(token[0]);
                int[] d = distanceRow(token[1]);
                body.append(symbolCodes[257 + k[0]]).append(number(k[1], k[2]));
                body.append(distanceCodes[d[0]]).append(number(d[1], d[2]));
            }
        }
        return number(1, 1) + number(2, 2) + telling() + body + symbolCodes[256];
    }

    /** The symbol, the number behind it, how many bits that has. */
    static int[] lengthRow(int length) {
        if (length == 258) {
            return new int[] {28, 0, 0};
        }
        for (int k = 0; ; k++) {
            int e = k < 8 ? 0 : k / 4 - 1;
            int least = k < 8 ? 3 + k : 3 + (4 + k % 4) * (1 << e);
            if (length >= least && length < least + (1 << e)) {
                return new int[] {k, length - least, e};
            }
        }
    }

    static int[] distanceRow(int distance) {
        for (int d = 0; ; d++) {
            int e = d < 4 ? 0 : d / 2 - 1;
            int least = d < 4 ? 1 + d : 1 + (2 + d % 2) * (1 << e);
            if (distance >= least && distance < least + (1 << e)) {
                return new int[] {d, distance - least, e};
            }
        }
    }

    private static int[] lengthsOf(int[] howOften, int longest) {
        int[] counts = howOften.clone();
        while (true) {
            int[] depths = depthsOf(counts);
            if (greatest(depths) <= longest) {
                return depths;
            }
            for (int i = 0; i < counts.length; i++) {
                counts[i] = (counts[i] + 1) / 2;
            }
        }
    }

    private static int greatest(int[] depths) {
        return IntStream.of(depths).max().orElse(0);
    }

    /** A node is its weight, its rank among like ones, and the symbols below it. */
    private static int[] depthsOf(int[] counts) {
        int[] depths = new int[counts.length];
        List<int[]> nodes = new ArrayList<>();
        for (int symbol = 0; symbol < counts.length; symbol++) {
            if (counts[symbol] > 0) {
                nodes.add(new int[] {counts[symbol], symbol, symbol});
            }
        }
        if (nodes.size() == 1) {
            depths[nodes.get(0)[2]] = 1;
        }
        for (int rank = counts.length; nodes.size() > 1; rank++) {
            int[] a = takeRarest(nodes);
            int[] b = takeRarest(nodes);
            int[] joined = new int[a.length + b.length - 2];
            joined[0] = a[0] + b[0];
            joined[1] = rank;
            System.arraycopy(a, 2, joined, 2, a.length - 2);
            System.arraycopy(b, 2, joined, a.length, b.length - 2);
            for (int i = 2; i < joined.length; i++) {
                depths[joined[i]]++;
            }
            nodes.add(joined);
        }
        return depths;
    }

    private static int[] takeRarest(List<int[]> nodes) {
        int best = 0;
        for (int i = 1; i < nodes.size(); i++) {
            int[] a = nodes.get(i);
            int[] b = nodes.get(best);
            if (a[0] < b[0] || a[0] == b[0] && a[1] < b[1]) {
                best = i;
            }
        }
        return nodes.remove(best);
    }

    static String[] codesOf(int[] lengths) {
        String[] codes = new String[lengths.length];
        int next = 0;
        for (int length = 1; length <= 15; length++) {
            next *= 2;
            for (int symbol = 0; symbol < lengths.length; symbol++) {
                if (lengths[symbol] == length) {
                    codes[symbol] = new StringBuilder(number(next, length)).reverse().toString();
                    next++;
                }
            }
        }
        return codes;
    }

    private String telling() {
        symbolsTold = 286;
        while (symbolsTold > 257 && symbolLengths[symbolsTold - 1] == 0) {
            symbolsTold--;
        }
        distancesTold = 30;
        while (distancesTold > 1 && distanceLengths[distancesTold - 1] == 0) {
            distancesTold--;
        }
        int[] row = Arrays.copyOf(symbolLengths, symbolsTold + distancesTold);
        System.arraycopy(distanceLengths, 0, row, symbolsTold, distancesTold);
        cells = cellsOf(row);
        int[] counts = new int[19];
        for (int[] cell : cells) {
            counts[cell[0]]++;
        }
        int[] lengths = lengthsOf(counts, 7);
        lengthDepth = greatest(depthsOf(counts));
        String[] codes = codesOf(lengths);
        lengthsTold = 19;
        while (lengthsTold > 4 && lengths[ORDER[lengthsTold - 1]] == 0) {
            lengthsTold--;
        }
        StringBuilder bits = new StringBuilder(number(symbolsTold - 257, 5) + number(distancesTold - 1, 5) + number(lengthsTold - 4, 4));
        for (int i = 0; i < lengthsTold; i++) {
            bits.append(number(lengths[ORDER[i]], 3));
        }
        for (int[] cell : cells) {
            bits.append(codes[cell[0]]).append(number(cell[1], cell[2]));
        }
        return bits.toString();
    }

    private static List<int[]> cellsOf(int[] row) {
        List<int[]> cells = new ArrayList<>();
        int i = 0;
        while (i < row.length) {
            int same = sameFrom(row, i, row[i]);
            if (row[i] == 0 && same >= 11) {
                int times = Math.min(138, same);
                cells.add(new int[] {18, times - 11, 7});
                i += times;
            } else if (row[i] == 0 && same >= 3) {
                cells.add(new int[] {17, same - 3, 3});
                i += same;
            } else {
                int length = row[i];
                cells.add(new int[] {length, 0, 0});
                i++;
                while (length != 0 && sameFrom(row, i, length) >= 3) {
                    int times = Math.min(6, sameFrom(row, i, length));
                    cells.add(new int[] {16, times - 3, 2});
                    i += times;
                }
            }
        }
        return cells;
    }

    private static int sameFrom(int[] row, int from, int value) {
        int i = from;
        while (i < row.length && row[i] == value) {
            i++;
        }
        return i - from;
    }

    private int[] kept() {
        List<Integer> all = new ArrayList<>();
        int from = 0;
        do {
            int length = Math.min(65535, text.length - from);
            all.add(from + length == text.length ? 1 : 0);
            all.add(length % 256);
            all.add(length / 256);
            all.add(255 - length % 256);
            all.add(255 - length / 256);
            for (int i = 0; i < length; i++) {
                all.add(text[from + i]);
            }
            from += length;
        } while (from < text.length);
        return all.stream().mapToInt(Integer::intValue).toArray();
    }

    static String number(int value, int bits) {
        StringBuilder text = new StringBuilder();
        for (int i = 0; i < bits; i++) {
            text.append(value >> i & 1);
        }
        return text.toString();
    }

    static int[] toBytes(String bits) {
        int[] bytes = new int[(bits.length() + 7) / 8];
        for (int i = 0; i < bits.length(); i++) {
            bytes[i / 8] |= (bits.charAt(i) - '0') << i % 8;
        }
        return bytes;
    }
}
