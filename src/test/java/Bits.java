/** A stream that a test writes bit by bit. */
final class Bits {
    private static final int[] ORDER = {16, 17, 18, 0, 8, 7, 9, 6, 10, 5, 11, 4, 12, 3, 13, 2, 14, 1, 15};

    private final StringBuilder bits = new StringBuilder();

    int size() {
        return bits.length();
    }

    /** Lowest bit first. */
    Bits number(int value, int count) {
        bits.append(PlainPacker.number(value, count));
        return this;
    }

    /** Bits as they stand there: a code is written with its highest bit first. */
    Bits code(String code) {
        bits.append(code);
        return this;
    }

    Bits block(boolean last, int kind) {
        return number(last ? 1 : 0, 1).number(kind, 2);
    }

    Bits toWholeByte() {
        while (bits.length() % 8 != 0) {
            bits.append('0');
        }
        return this;
    }

    Bits kept(int... bytes) {
        toWholeByte().number(bytes.length, 16).number(~bytes.length, 16);
        for (int b : bytes) {
            number(b, 8);
        }
        return this;
    }

    /** A symbol by the fixed codes. */
    Bits fixed(int symbol) {
        if (symbol < 144) {
            return highFirst(0x30 + symbol, 8);
        }
        if (symbol < 256) {
            return highFirst(0x190 + symbol - 144, 9);
        }
        return symbol < 280 ? highFirst(symbol - 256, 7) : highFirst(0xC0 + symbol - 280, 8);
    }

    /** A distance symbol by the fixed codes. */
    Bits fixedDistance(int d) {
        return highFirst(d, 5);
    }

    Bits highFirst(int value, int count) {
        bits.append(new StringBuilder(PlainPacker.number(value, count)).reverse());
        return this;
    }

    /** The three numbers of kind 2, and the lengths of the codes of lengths, all nineteen. */
    Bits told(int symbols, int distances, int[] lengthOf) {
        number(symbols - 257, 5).number(distances - 1, 5).number(15, 4);
        for (int length : ORDER) {
            number(lengthOf[length], 3);
        }
        return this;
    }

    int[] bytes() {
        return PlainPacker.toBytes(bits.toString());
    }
}
