/** A stream that a test writes bit by bit. */
final class Bits {
    private static final int[] ORDER = {16, 17, 18, 0, 8, 7, 9, 6, 10, 5, 11, 4, 12, 3, 13, 2, 14, 1, 15};
    /** Lengths of codes by which lengths are told: complete, and each one has a code. */
    private static final int[] TELLING = {4, 4, 4, 4, 4, 4, 4, 4, 4, 4, 4, 4, 4, 5, 5, 5, 5, 5, 5};
    private static final String[] TELLING_CODES = PlainPacker.codesOf(TELLING);

    private final StringBuilder bits = new StringBuilder();

    int size() {
        return bits.length();
    }

    Bits copy() {
        return new Bits().code(bits.toString());
    }

    /** Lowest bit first. */
    Bits number(int value, int count) {
        bits.append(PlainPacker.number(value, count));
        return this;
    }

    /** Bits as they stand there: a code is written with its highest bit first. */
    Bits code(String code) {
        bits.append(code);
        return this;
    }

    Bits codes(String[] codes, int... symbols) {
        for (int symbol : symbols) {
            code(codes[symbol]);
        }
        return this;
    }

    Bits block(boolean last, int kind) {
        return number(last ? 1 : 0, 1).number(kind, 2);
    }

    Bits toWholeByte() {
        while (bits.length() % 8 != 0) {
            bits.append('0');
        }
        return this;
    }

    /** A block of kind 0, behind its three bits. */
    Bits kept(int... bytes) {
        toWholeByte().number(bytes.length, 16).number(~bytes.length, 16);
        for (int b : bytes) {
            number(b, 8);
        }
        return this;
    }

    /** A symbol by the fixed codes. */
    Bits fixed(int... symbols) {
        for (int symbol : symbols) {
            if (symbol < 144) {
                highFirst(0x30 + symbol, 8);
            } else if (symbol < 256) {
                highFirst(0x190 + symbol - 144, 9);
            } else if (symbol < 280) {
                highFirst(symbol - 256, 7);
            } else {
                highFirst(0xC0 + symbol - 280, 8);
            }
        }
        return this;
    }

    /** A distance symbol by the fixed codes. */
    Bits fixedDistance(int d) {
        return highFirst(d, 5);
    }

    /** A match by the fixed codes. */
    Bits match(int length, int distance) {
        int[] k = PlainPacker.lengthRow(length);
        int[] d = PlainPacker.distanceRow(distance);
        return fixed(257 + k[0]).number(k[1], k[2]).fixedDistance(d[0]).number(d[1], d[2]);
    }

    /** By the fixed codes, a byte so many times; few bits for many bytes. */
    Bits like(int b, int times) {
        int left = times - 1;
        fixed(b);
        while (left >= 3) {
            int length = Math.min(258, left);
            match(length, 1);
            left -= length;
        }
        for (int i = 0; i < left; i++) {
            fixed(b);
        }
        return this;
    }

    private Bits highFirst(int value, int count) {
        bits.append(new StringBuilder(PlainPacker.number(value, count)).reverse());
        return this;
    }

    /** The three numbers of kind 2, and the lengths of the codes of lengths, all nineteen. */
    Bits told(int symbols, int distances, int[] lengthOf) {
        number(symbols - 257, 5).number(distances - 1, 5).number(15, 4);
        for (int length : ORDER) {
            number(lengthOf[length], 3);
        }
        return this;
    }

    Bits told(int symbols, int distances) {
        return told(symbols, distances, TELLING);
    }

    /** Lengths, each one by itself, behind told(symbols, distances). */
    Bits lengths(int... lengths) {
        return codes(TELLING_CODES, lengths);
    }

    /** The one before so many times more, behind told(symbols, distances). */
    Bits sameAgain(int times) {
        return code(TELLING_CODES[16]).number(times - 3, 2);
    }

    Bits fewZeros(int times) {
        return code(TELLING_CODES[17]).number(times - 3, 3);
    }

    Bits manyZeros(int times) {
        return code(TELLING_CODES[18]).number(times - 11, 7);
    }

    /** So many 0s, in as few symbols as it goes. */
    Bits zeros(int times) {
        int left = times;
        while (left > 138) {
            manyZeros(138);
            left -= 138;
        }
        if (left >= 11) {
            return manyZeros(left);
        }
        return left >= 3 ? fewZeros(left) : lengths(new int[left]);
    }

    /** Three bits and all that a block of kind 2 tells before its symbols. */
    Bits toldBlock(boolean last, int[] symbolLengths, int[] distanceLengths) {
        block(last, 2).told(symbolLengths.length, distanceLengths.length);
        return row(symbolLengths).row(distanceLengths);
    }

    private Bits row(int[] lengths) {
        int zeros = 0;
        for (int length : lengths) {
            if (length == 0) {
                zeros++;
            } else {
                zeros(zeros).lengths(length);
                zeros = 0;
            }
        }
        return zeros(zeros);
    }

    int[] bytes() {
        return PlainPacker.toBytes(bits.toString());
    }
}
