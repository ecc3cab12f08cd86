import java.util.ArrayList;
import java.util.Arrays;
import java.util.List;
import java.util.Random;

/** A stream of blocks of chance, most of them sound; now and then something in it cannot be. */
final class ChanceStream {
    private final Random random;
    private final Bits bits = new Bits();

    ChanceStream(Random random) {
        this.random = random;
        int blocks = 1 + random.nextInt(4);
        for (int i = 1; i <= blocks; i++) {
            block(i == blocks);
        }
    }

    int[] bytes() {
        return bits.bytes();
    }

    private boolean rarely() {
        return random.nextInt(40) == 0;
    }

    private void block(boolean last) {
        switch (random.nextInt(3)) {
            case 0 -> bits.block(last, rarely() ? 3 : 0).kept(random.ints(random.nextInt(30), 0, 256).toArray());
            case 1 -> fixed(last);
            default -> told(last);
        }
    }

    private void fixed(boolean last) {
        int[] symbols = new int[288];
        for (int symbol = 0; symbol < symbols.length; symbol++) {
            symbols[symbol] = symbol < 144 ? 8 : symbol < 256 ? 9 : symbol < 280 ? 7 : 8;
        }
        bits.block(last, 1);
        symbols(symbols, Packs.like(5, 32));
    }

    private void told(boolean last) {
        int[] symbols = lengths(257 + random.nextInt(30), 256, 1 + random.nextInt(40));
        int[] distances = lengths(1 + random.nextInt(30), -1, random.nextInt(8));
        bits.block(last, 2).told(symbols.length, distances.length);
        row(Packs.joined(symbols, distances));
        symbols(symbols, distances);
    }

    /** Complete lengths for so many symbols, one of which is the one that must have a length; or, rarely, not quite. */
    private int[] lengths(int size, int must, int codes) {
        int[] lengths = new int[size];
        List<Integer> leaves = new ArrayList<>();
        if (codes > 0) {
            leaves.add(0);
        }
        while (leaves.size() < Math.min(codes, size)) {
            // The later ones are split more often, so that there are long codes.
            int leaf = leaves.size() - 1 - (int) (leaves.size() * random.nextDouble() * random.nextDouble());
            int length = leaves.get(leaf) + 1;
            if (length <= 15) {
                leaves.set(leaf, length);
                leaves.add(length);
            }
        }
        int symbol = must;
        for (int leaf : leaves) {
            while (symbol < 0 || lengths[symbol] > 0) {
                symbol = random.nextInt(size);
            }
            lengths[symbol] = Math.max(1, leaf);
        }
        if (rarely()) {
            lengths[random.nextInt(size)] = random.nextInt(16);
        }
        return lengths;
    }

    /** Runs are told by 16, 17 and 18, or one by one, as it comes. */
    private void row(int[] row) {
        int place = 0;
        while (place < row.length) {
            int run = 1;
            while (place + run < row.length && row[place + run] == row[place]) {
                run++;
            }
            place += run(row[place], run, place > 0 && row[place - 1] == row[place]);
        }
    }

    private int run(int length, int run, boolean again) {
        // Now and then one too many: it matters at the end of the row alone.
        int most = run >= 3 && rarely() ? run + 1 : run;
        if (length == 0 && most >= 11 && random.nextInt(8) > 0) {
            int times = 11 + random.nextInt(Math.min(138, most) - 10);
            bits.manyZeros(times);
            return times;
        }
        if (length == 0 && most >= 3 && random.nextInt(4) > 0) {
            int times = 3 + random.nextInt(Math.min(10, most) - 2);
            bits.fewZeros(times);
            return times;
        }
        if ((again || rarely()) && most >= 3 && random.nextInt(4) > 0) {
            int times = 3 + random.nextInt(Math.min(6, most) - 2);
            bits.sameAgain(times);
            return times;
        }
        bits.lengths(length);
        return 1;
    }

    private void symbols(int[] symbolLengths, int[] distanceLengths) {
        String[] symbolCodes = PlainPacker.codesOf(symbolLengths);
        String[] distanceCodes = PlainPacker.codesOf(distanceLengths);
        int[] coded = coded(symbolCodes);
        int[] near = coded(distanceCodes);
        for (int i = random.nextInt(60); i > 0 && coded.length > 0; i--) {
            int symbol = coded[random.nextInt(coded.length)];
            // Matches where none can be are rare, so that most blocks come to their end.
            boolean match = symbol > 256 && (near.length > 0 && i < 40 && random.nextInt(3) == 0 || rarely());
            if (symbol < 256) {
                bits.code(symbolCodes[symbol]);
            } else if (match) {
                match(symbol, symbolCodes, distanceCodes, near);
            }
        }
        bits.code(symbolCodes[256] == null || rarely() ? "1" : symbolCodes[256]);
    }

    private void match(int symbol, String[] symbolCodes, String[] distanceCodes, int[] near) {
        int k = symbol - 257;
        bits.code(symbolCodes[symbol]).number(random.nextInt(32), k < 8 || k >= 28 ? 0 : k / 4 - 1);
        if (near.length == 0 || rarely()) {
            bits.code("1");
            return;
        }
        // Most distances are small ones.
        int d = near[(int) (near.length * random.nextDouble() * random.nextDouble() * random.nextDouble())];
        bits.code(distanceCodes[d]).number(rarely() ? -1 : random.nextInt(4), d < 4 ? 0 : d / 2 - 1);
    }

    private static int[] coded(String[] codes) {
        int[] all = new int[codes.length];
        int size = 0;
        for (int symbol = 0; symbol < codes.length; symbol++) {
            if (codes[symbol] != null) {
                all[size++] = symbol;
            }
        }
        return Arrays.copyOf(all, size);
    }
}
