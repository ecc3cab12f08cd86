import java.util.Arrays;

/** Terms: the form of a stream, by streams that are unpacked. */
final class FormBounds {
    private static final String TERMS = "Terms";

    private final Sentences s;

    FormBounds(Sentences s) {
        this.s = s;
    }

    void run() {
        bitsAndNumbers();
        blocks();
        keptBytes();
        symbols();
        lengths();
        distances();
        codes();
        completeLengths();
        fixedCodes();
        numbersOfToldCodes();
        lengthsOfLengths();
        rowOfLengths();
    }

    private void dueText(String name, Bits bits, int... text) {
        Streams.dueText(s, name, bits, text);
    }

    private void dueEnd(String name, Bits bits, int why) {
        Streams.dueEnd(s, name, bits, why);
    }

    private void dueTruncated(String name, Bits bits) {
        Streams.dueTruncated(s, name, bits);
    }

    /** A row of lengths, none but those in pairs of a symbol and its length. */
    static int[] lengthsOf(int size, int... pairs) {
        int[] lengths = new int[size];
        for (int i = 0; i < pairs.length; i += 2) {
            lengths[pairs[i]] = pairs[i + 1];
        }
        return lengths;
    }

    private void bitsAndNumbers() {
        s.of(TERMS, "BITS of bytes are taken lowest first; numbers lowest bit first, codes highest bit first.");
        // As the published form has it: the letter a by fixed codes; last 1, kind 01, code 10010001, code 0000000.
        FlatBlocks x = Streams.due(s, "fixed", 5, new int[] {0x4B, 0x04, 0x00}, 0, 18);
        s.due("out(0)", x.out(0), 'a');
        // L 258 is 2, 1, and with all bits turned 253, 254: the high byte comes last.
        int[] kept = new int[5 + 258];
        System.arraycopy(new int[] {1, 2, 1, 253, 254, 77}, 0, kept, 0, 6);
        x = Streams.due(s, "kept", 300, kept, 0, 8 * 263);
        s.due("count(3)", x.count(3), 258);
        s.due("out(0)", x.out(0), 77);
        // Distance 6 is symbol 4 and a number 1; distance 8 is symbol 5, and 1; distance 10 symbol 6, and 01.
        dueText("a number of two bits", new Bits().block(true, 1).fixed(0, 1, 2, 3, 4, 5, 6, 7, 8, 9).fixed(257)
            .fixedDistance(6).code("10").fixed(256), 0, 1, 2, 3, 4, 5, 6, 7, 8, 9, 0, 1, 2);
    }

    private void blocks() {
        s.of(TERMS, "A STREAM is blocks up to a last one;");
        dueText("one block", new Bits().block(true, 1).fixed(1, 256), 1);
        dueText("two blocks", new Bits().block(false, 1).fixed(1, 256).block(true, 1).fixed(2, 256), 1, 2);
        Bits behind = new Bits().block(true, 1).fixed(1, 256);
        int bit = behind.size();
        FlatBlocks x = Streams.due(s, "a block behind the last", 5, behind.block(true, 1).fixed(2, 256).bytes(), 0, bit);
        Texts.dueUnpacked(s, "a block behind the last", x, new int[] {1});
        Bits many = new Bits();
        int[] text = new int[60];
        for (int i = 0; i < text.length; i++) {
            text[i] = i;
            many.block(false, i % 3 == 0 ? 0 : 1);
            many = i % 3 == 0 ? many.kept(i) : many.fixed(i, 256);
        }
        dueTruncated("no block is the last", many.copy().toWholeByte());
        dueText("many blocks", many.block(true, 0).kept(), text);

        s.of(TERMS, "a BLOCK: a bit (last), a number of two bits, its KIND.");
        dueTruncated("no bit", new Bits());
        for (int kind = 0; kind < 4; kind++) {
            for (int last = 0; last < 2; last++) {
                // Three blocks without a byte, of 10 bits each, leave two bits of a byte for the three of the next block.
                Bits bits = new Bits();
                for (int i = 0; i < 3; i++) {
                    bits.block(false, 1).fixed(256);
                }
                int size = bits.size();
                s.due("two bits are left", 32 - size, 2);
                int[] cut = Arrays.copyOf(bits.block(last == 1, kind).bytes(), 4);
                Streams.due(s, "two of three bits, kind " + kind, 5, cut, FlatBlocks.TRUNCATED, 32);
            }
        }
        dueText("kind 0, last", new Bits().block(true, 0).kept(7), 7);
        dueText("kind 1, last", new Bits().block(true, 1).fixed(7, 256), 7);
        int[] told = lengthsOf(257, 7, 1, 256, 1);
        dueText("kind 2, last", new Bits().toldBlock(true, told, new int[1]).code("01"), 7);
        dueText("kind 2, not the last", new Bits().toldBlock(false, told, new int[1]).code("01")
            .toldBlock(true, told, new int[1]).code("0001"), 7, 7, 7, 7);
        // Codes and lengths of one block are gone in the next.
        int[] more = lengthsOf(258, 7, 2, 9, 2, 256, 2, 257, 2);
        dueText("kind 2 after kind 2 with more symbols", new Bits().toldBlock(false, more, new int[] {1, 1}).code("0001")
            .code("11").code("1").code("10").toldBlock(true, told, new int[1]).code("001"), 7, 9, 7, 9, 7, 7, 7);
        dueText("kind 1 after kind 2", new Bits().toldBlock(false, told, new int[1]).code("01").block(true, 1)
            .fixed(200).match(3, 2).fixed(256), 7, 200, 7, 200, 7);
    }

    private void keptBytes() {
        s.of(TERMS, "KIND 0: bits up to a whole byte,");
        for (int before = 0; before < 8; before++) {
            // Each byte from 144 on is one bit more than a whole byte.
            Bits bits = new Bits().block(false, 1);
            int[] text = new int[before + 1];
            for (int i = 0; i < before; i++) {
                text[i] = 144 + i;
                bits.fixed(144 + i);
            }
            text[before] = 33;
            bits.fixed(256).block(true, 0);
            int left = (8 - bits.size() % 8) % 8;
            dueText(left + " bits, all 0", bits.copy().kept(33), text);
            dueText(left + " bits, all 1", bits.copy().number(-1, left).kept(33), text);
        }

        s.of(TERMS, "a number L of 16 bits, another one that is L with all bits turned, L bytes.");
        dueText("L 0", new Bits().block(true, 0).kept());
        dueText("L 0, not the last", new Bits().block(false, 0).kept().block(true, 0).kept());
        dueText("L 1", new Bits().block(true, 0).kept(0), 0);
        for (int length : new int[] {254, 255, 256, 257, 300}) {
            int[] text = new int[length];
            Arrays.setAll(text, i -> i * 7 & 255);
            dueText("L " + length, new Bits().block(true, 0).kept(text), text);
        }
        Streams.due(s, "L 65,535, and a byte", 300, new int[] {1, 255, 255, 0, 0, 9}, FlatBlocks.TRUNCATED, 48);
        Streams.due(s, "L 32,768, and a byte", 300, new int[] {1, 0, 128, 255, 127, 9}, FlatBlocks.TRUNCATED, 48);
        // The document speaks of 512 calls; a stream with the largest kept block needs more of them.
        for (int length : new int[] {32_767, 32_768, 65_534, 65_535}) {
            int[] text = new int[length];
            Arrays.setAll(text, i -> i * 11 / 3 & 255);
            FlatBlocks x = Streams.due(s, "L " + length, 70_000, new Bits().block(false, 0).kept(text).block(true, 0).kept(1, 2).bytes(),
                0, 8 * (5 + length + 5 + 2));
            s.due("L " + length + ": count(3)", x.count(3), length + 2);
            s.due("L " + length + ": the last one of the first block", x.out(length - 1), text[length - 1]);
            s.due("L " + length + ": the first one of the next", x.out(length), 1);
            s.due("L " + length + ": the last one", x.out(length + 1), 2);
        }
    }

    private void symbols() {
        s.of(TERMS, "KINDS 1, 2: SYMBOLS by codes: below 256 a byte; 256 ends the block;");
        dueText("the first and the last byte", new Bits().block(true, 1).fixed(0, 255, 256), 0, 255);
        dueText("no byte", new Bits().block(true, 1).fixed(256));
        int[] told = lengthsOf(257, 0, 2, 255, 2, 256, 1);
        dueText("the first and the last byte, told", new Bits().toldBlock(true, told, new int[1]).code("10").code("11").code("0"),
            0, 255);

        s.of(TERMS, "257 + k a MATCH, with LENGTH, then a distance symbol d, with DISTANCE:"
            + " so many bytes, each being the one that is DISTANCE before.");
        dueText("k 0, d 0", new Bits().block(true, 1).fixed(5, 257).fixedDistance(0).fixed(256), 5, 5, 5, 5);
        dueText("less than DISTANCE", new Bits().block(true, 1).fixed(1, 2, 3, 4).match(3, 4).fixed(256), 1, 2, 3, 4, 1, 2, 3);
        dueText("as many as DISTANCE", new Bits().block(true, 1).fixed(1, 2, 3).match(3, 3).fixed(256), 1, 2, 3, 1, 2, 3);
        dueText("more than DISTANCE", new Bits().block(true, 1).fixed(1, 2, 3).match(6, 2).fixed(256),
            1, 2, 3, 2, 3, 2, 3, 2, 3);
        dueText("of an earlier block", new Bits().block(false, 0).kept(1, 2, 3).block(true, 1).match(4, 3).fixed(256),
            1, 2, 3, 1, 2, 3, 1);
        dueText("of a match", new Bits().block(true, 1).fixed(1, 2).match(3, 1).match(4, 5).fixed(256),
            1, 2, 2, 2, 2, 1, 2, 2, 2);
    }

    private void lengths() {
        s.of(TERMS, "LENGTH of k 0 .. 7 is 3 + k;");
        for (int k = 0; k <= 7; k++) {
            dueLength(k, 0, 0, 3 + k);
        }
        s.of(TERMS, "of 8 .. 27, with e = k / 4 - 1, 3 + (4 + k modulo 4) 2^e and a number of e bits;");
        int[] least = {11, 13, 15, 17, 19, 23, 27, 31, 35, 43, 51, 59, 67, 83, 99, 115, 131, 163, 195, 227};
        for (int k = 8; k <= 27; k++) {
            int bits = 1 + (k - 8) / 4;
            for (int number = 0; number < 1 << bits; number++) {
                dueLength(k, number, bits, least[k - 8] + number);
            }
        }
        s.of(TERMS, "of 28 it is 258.");
        dueLength(28, 0, 0, 258);
        // The greatest number of k 27 makes as many.
        dueLength(27, 31, 5, 258);
    }

    private void dueLength(int k, int number, int bits, int length) {
        Bits stream = new Bits().block(true, 1).fixed(77, 257 + k).number(number, bits).fixedDistance(0).fixed(78, 256);
        int bit = stream.size();
        FlatBlocks x = Streams.due(s, "k " + k + ", number " + number, 300, stream.bytes(), 0, bit);
        s.due("k " + k + ", number " + number + ": count(3)", x.count(3), 1 + length + 1);
        s.due("k " + k + ", number " + number + ": the last one of it", x.out(length), 77);
        s.due("k " + k + ", number " + number + ": the byte behind it", x.out(length + 1), 78);
    }

    private void distances() {
        s.of(TERMS, "DISTANCE of d 0 .. 3 is 1 + d;");
        for (int d = 0; d <= 3; d++) {
            dueDistance(d, 0, 0, 1 + d);
        }
        s.of(TERMS, "of 4 .. 29, with e = d / 2 - 1, 1 + (2 + d modulo 2) 2^e and a number of e bits.");
        int[] least = {5, 7, 9, 13, 17, 25, 33, 49, 65, 97, 129, 193, 257, 385, 513, 769, 1025, 1537, 2049, 3073, 4097, 6145, 8193,
            12_289, 16_385, 24_577};
        for (int d = 4; d <= 29; d++) {
            int bits = 1 + (d - 4) / 2;
            int most = (1 << bits) - 1;
            dueDistance(d, 0, bits, least[d - 4]);
            dueDistance(d, 1, bits, least[d - 4] + 1);
            dueDistance(d, most / 2 + 1, bits, least[d - 4] + most / 2 + 1);
            dueDistance(d, most, bits, least[d - 4] + most);
            s.due("the next d begins behind it", least[d - 4] + most + 1, d < 29 ? least[d - 3] : 32_769);
        }
    }

    /** Its first three bytes stand just so far before the end of a text, and before them is another one. */
    private void dueDistance(int d, int number, int bits, int distance) {
        Bits stream = new Bits().block(true, 1).fixed(99);
        for (int i = 0; i < Math.min(3, distance); i++) {
            stream.fixed(200 + i);
        }
        if (distance > 3) {
            stream.like(98, distance - 3);
        }
        stream.fixed(257).fixedDistance(d).number(number, bits).fixed(256);
        int bit = stream.size();
        String name = "d " + d + ", number " + number;
        FlatBlocks x = Streams.due(s, name, 70_000, stream.bytes(), 0, bit);
        s.due(name + ": count(3)", x.count(3), 1 + distance + 3);
        for (int i = 0; i < 3; i++) {
            s.due(name + ": byte " + i, x.out(1 + distance + i), 200 + i % Math.min(3, distance));
        }
    }

    private void codes() {
        s.of(TERMS, "CODES come from lengths 0 (none) .. 15:");
        // Lengths 1, 2, 3 .. 14, 15, 15: the codes are 0, 10, 110 .. and two of 15 bits.
        int[] deep = new int[257];
        for (int i = 0; i < 15; i++) {
            deep[i * 17] = i + 1;
        }
        deep[256] = 15;
        String[] codes = PlainPacker.codesOf(deep);
        Bits bits = new Bits().toldBlock(true, deep, new int[1]);
        int[] text = new int[15];
        for (int i = 0; i < 15; i++) {
            text[i] = (14 - i) * 17;
            s.due("bits of code " + text[i], codes[text[i]].length(), 15 - i);
            bits.code(codes[text[i]]);
        }
        dueText("all lengths", bits.code("1".repeat(15)), text);

        s.of(TERMS, "shorter ones first, of like ones the lesser symbols, counted up;");
        // As in the published form's own example: lengths 3, 3, 3, 3, 3, 2, 4, 4 have 010 .. 110, 00, 1110, 1111.
        int[] eight = lengthsOf(257, 65, 3, 66, 3, 67, 3, 68, 3, 69, 3, 70, 2, 71, 4, 256, 4);
        dueText("A to G", new Bits().toldBlock(true, eight, new int[1]).code("010").code("011").code("100").code("101")
            .code("110").code("00").code("1110").code("1111"), 65, 66, 67, 68, 69, 70, 71);

        s.of(TERMS, "the first one is all 0s, each next length begins with twice what comes next.");
        int[] gap = lengthsOf(257, 10, 1, 20, 4, 30, 4, 40, 4, 50, 4, 60, 4, 70, 4, 80, 4, 256, 4);
        dueText("from 1 bit to 4", new Bits().toldBlock(true, gap, new int[1]).code("0").code("1000").code("1001")
            .code("1110").code("1111"), 10, 20, 30, 80);
        int[] late = lengthsOf(257, 3, 2, 2, 2, 1, 3, 0, 3, 255, 3, 256, 3);
        dueText("from 2 bits", new Bits().toldBlock(true, late, new int[1]).code("00").code("01").code("100").code("101")
            .code("110").code("111"), 2, 3, 0, 1, 255);
    }

    private void completeLengths() {
        s.of(TERMS, "Lengths are COMPLETE, if all rows of bits begin with just one code.");
        int[][] complete = {{5, 1, 256, 1}, {5, 2, 6, 2, 7, 2, 256, 2}, {5, 1, 6, 2, 256, 2}, {5, 1, 6, 2, 7, 3, 256, 3}};
        for (int[] pairs : complete) {
            int[] lengths = lengthsOf(257, pairs);
            dueText("just all", new Bits().toldBlock(true, lengths, new int[1])
                .codes(PlainPacker.codesOf(lengths), 5, 5, 256), 5, 5);
        }
        int[][] not = {{5, 1, 256, 2}, {5, 2, 6, 2, 256, 2}, {5, 1, 6, 2, 256, 3}, {5, 1, 256, 15}, {5, 1, 6, 1, 256, 1},
            {5, 1, 6, 1, 256, 15}, {5, 1, 6, 2, 7, 2, 256, 2}, {5, 1, 6, 2, 7, 2, 256, 15}, {5, 15, 256, 15}};
        for (int[] pairs : not) {
            int[] lengths = lengthsOf(257, pairs);
            dueEnd("none for some, or two", new Bits().toldBlock(true, lengths, new int[1]), FlatBlocks.BAD_CODES);
        }
        // 286 symbols of length 1 are so many too many that a sum of shares might wrap around.
        int[] far = new int[286];
        Arrays.fill(far, 1);
        dueEnd("far too many", new Bits().toldBlock(true, far, new int[1]), FlatBlocks.BAD_CODES);
        // All but one of the 32,768 rows of 15 bits, and one too many.
        int[] deep = new int[257];
        for (int i = 0; i < 15; i++) {
            deep[i] = i + 1;
        }
        deep[256] = 14;
        dueEnd("one row of 15 bits too many", new Bits().toldBlock(true, deep, new int[1]), FlatBlocks.BAD_CODES);
        deep[256] = 15;
        deep[14] = 0;
        dueEnd("one row of 15 bits is left", new Bits().toldBlock(true, deep, new int[1]), FlatBlocks.BAD_CODES);
    }

    private void fixedCodes() {
        s.of(TERMS, "KIND 1: symbols 0 .. 143 have 8 bits, 144 .. 255 9, 256 .. 279 7, 280 .. 287 8;");
        dueText("edges of bytes", new Bits().block(true, 1).code("00110000").code("10111111").code("110010000")
            .code("111111111").code("0000000"), 0, 143, 144, 255);
        int[] all = new int[256];
        Arrays.setAll(all, b -> b);
        dueText("all bytes", new Bits().block(true, 1).fixed(all).fixed(256), all);
        // 257 is length 3; 279 the last one of 7 bits, k 22, 99 to 114; 280 the first one of 8, k 23, 115 to 130; 285 is 258.
        dueFixedLength("0000001", 0, 3);
        dueFixedLength("0010111", 4, 99);
        dueFixedLength("11000000", 4, 115);
        dueFixedLength("11000101", 0, 258);
        dueEnd("286", new Bits().block(true, 1).code("11000110"), FlatBlocks.BAD_SYMBOL);
        dueEnd("287", new Bits().block(true, 1).code("11000111"), FlatBlocks.BAD_SYMBOL);

        s.of(TERMS, "distance symbols 0 .. 31 5.");
        dueText("0", new Bits().block(true, 1).fixed(9, 257).code("00000").fixed(256), 9, 9, 9, 9);
        dueText("1", new Bits().block(true, 1).fixed(8, 9, 257).code("00001").fixed(256), 8, 9, 8, 9, 8);
        Bits far = new Bits().block(true, 1).fixed(8).like(9, 24_576).fixed(257).code("11101").number(0, 13).fixed(256);
        int bit = far.size();
        s.due("29", Streams.due(s, "29", 30_000, far.bytes(), 0, bit).out(24_577), 8);
        dueEnd("30", new Bits().block(true, 1).fixed(9, 257).code("11110"), FlatBlocks.BAD_SYMBOL);
        dueEnd("31", new Bits().block(true, 1).fixed(9, 257).code("11111"), FlatBlocks.BAD_SYMBOL);
    }

    private void dueFixedLength(String code, int bits, int length) {
        Bits stream = new Bits().block(true, 1).fixed(9).code(code).number(0, bits).fixedDistance(0).fixed(256);
        int bit = stream.size();
        s.due("code " + code, Streams.due(s, "code " + code, 300, stream.bytes(), 0, bit).count(3), 1 + length);
    }

    private void numbersOfToldCodes() {
        s.of(TERMS, "KIND 2: numbers of 5, 5, 4 bits: how many symbols less 257, distance symbols less 1, lengths less 4,");
        for (int symbols = 257; symbols <= 286; symbols++) {
            int[] lengths = lengthsOf(symbols, 3, 1, symbols - 1, 1);
            lengths = symbols == 257 ? lengths : lengthsOf(symbols, 3, 2, 256, 2, symbols - 1, 1);
            dueText(symbols + " symbols", new Bits().toldBlock(true, lengths, new int[] {1})
                .codes(PlainPacker.codesOf(lengths), 3, 3, 256), 3, 3);
        }
        for (int distances = 1; distances <= 30; distances++) {
            int[] lengths = lengthsOf(258, 3, 2, 256, 2, 257, 1);
            int[] far = lengthsOf(distances, 0, 1, distances - 1, 1);
            dueText(distances + " distance symbols", new Bits().toldBlock(true, lengths, far).code("10").code("0").code("0").code("11"),
                3, 3, 3, 3);
        }
        dueTruncated("a number of 4 bits ends", new Bits().block(true, 2).number(0, 5).number(0, 5));
        dueTruncated("a number of 5 bits ends", new Bits().block(true, 2).number(0, 5));
        dueTruncated("behind the three numbers", new Bits().block(true, 2).number(0, 5).number(0, 5).number(15, 4));
    }

    /** So many lengths of lengths as are asked for: 18 has 1 bit, and another one too. */
    private void lengthsOfLengths() {
        s.of(TERMS, "of the ORDER 16, 17, 18, 0, 8, 7, 9, 6, 10, 5, 11, 4, 12, 3, 13, 2, 14, 1, 15,"
            + " each with a number of three bits, others 0:");
        int[] order = {16, 17, 18, 0, 8, 7, 9, 6, 10, 5, 11, 4, 12, 3, 13, 2, 14, 1, 15};
        for (int many = 5; many <= 19; many++) {
            dueLastOfOrder(many, order[many - 1]);
        }
        // Four: 18 and 0 alone, so that 256 has no length.
        dueEnd("four of the order", new Bits().block(true, 2).number(0, 5).number(0, 5).number(0, 4).number(0, 3).number(0, 3)
            .number(1, 3).number(1, 3).code("1").number(127, 7).code("1").number(109, 7), FlatBlocks.BAD_CODES);
        // The same, but a fifth one follows that is not told: these bits belong to the row.
        dueEnd("four of the order, that are not complete", new Bits().block(true, 2).number(0, 5).number(0, 5).number(0, 4)
            .number(0, 3).number(0, 3).number(1, 3).number(2, 3), FlatBlocks.BAD_CODES);
        // A block before told all of them: those that are not told are 0 again.
        int[] first = lengthsOf(257, 5, 1, 256, 1);
        Bits after = new Bits().toldBlock(false, first, new int[1]).code("01").block(true, 2).number(0, 5).number(10, 5).number(14, 4);
        for (int i = 0; i < 18; i++) {
            after.number(i == 2 || i == 17 ? 1 : 0, 3);
        }
        after.code("1").number(127, 7).code("1").number(118 - 11, 7).code("0").code("1").number(0, 7).code("0");
        dueText("18 of the order, behind a block with all", after, 5);
        dueEnd("four of the order, behind a block with all", new Bits().toldBlock(false, first, new int[1]).code("01").block(true, 2)
            .number(0, 5).number(0, 5).number(0, 4).number(5, 3).number(5, 3).number(5, 3).number(4, 3), FlatBlocks.BAD_CODES);
        // All lengths of three bits: seven, six, five .. one bit, in a code that is complete.
        int[] steep = lengthsOf(19, 18, 1, 1, 2, 17, 3, 2, 4, 3, 5, 4, 6, 5, 7, 6, 7);
        dueText("numbers 1 to 7", new Bits().block(true, 2).told(257, 11, steep)
            .code("1110").code("11110").code("111110").code("1111110").code("1111111").code("1111111")
            .code("0").number(127, 7).code("0").number(101, 7).code("10").code("0").number(0, 7).code("0"));
    }

    private void dueLastOfOrder(int many, int length) {
        // One symbol of just this length is not complete, so the row is looked at and refused behind its end, unless it is 1.
        Bits bits = new Bits().block(true, 2).number(0, 5).number(10, 5).number(many - 4, 4);
        for (int i = 0; i < many; i++) {
            bits.number(i == 2 || i == many - 1 ? 1 : 0, 3);
        }
        // The lesser symbol has code 0: that is the length, for 18 is above it.
        bits.code("1").number(127, 7).code("1").number(118 - 11, 7).code("0").code("1").number(0, 7);
        String name = many + " of the order, length " + length;
        if (length == 1) {
            dueText(name, bits.code("0"));
        } else {
            dueEnd(name, bits, FlatBlocks.BAD_CODES);
        }
    }

    private void rowOfLengths() {
        s.of(TERMS, "of the codes by which all lengths are told, symbols, then distance symbols, in one row: 0 .. 15 a length;");
        int[] symbolLengths = lengthsOf(258, 1, 2, 256, 2, 257, 1);
        Bits one = new Bits().block(true, 2).told(258, 2).lengths(symbolLengths).lengths(1, 1);
        dueText("each by itself", one.code("10").code("10").code("0").code("1").code("11"), 1, 1, 1, 1, 1);
        dueText("distance symbols behind symbols", new Bits().block(true, 2).told(258, 4).lengths(symbolLengths).lengths(0, 1, 0, 1)
            .code("10").code("10").code("10").code("10").code("0").code("1").code("11"), 1, 1, 1, 1, 1, 1, 1);

        s.of(TERMS, "16 the one before 3 .. 6 times more (two bits);");
        for (int times = 3; times <= 6; times++) {
            // Symbols 0 .. times of three bits, and the others of three bits up to eight.
            Bits bits = new Bits().block(true, 2).told(257, 1).lengths(3).sameAgain(times);
            for (int i = times + 1; i < 7; i++) {
                bits.lengths(3);
            }
            bits.zeros(256 - 7).lengths(3).lengths(0);
            dueText(times + " times more", bits.code("000").code("110").code("011").code("111"), 0, 6, 3);
        }
        dueText("16 behind 16", new Bits().block(true, 2).told(257, 1).lengths(4).sameAgain(6).sameAgain(5).sameAgain(3)
            .zeros(256 - 15).lengths(4).lengths(0).code("0000").code("1110").code("1111"), 0, 14);
        dueText("16 of a 0", new Bits().block(true, 2).told(257, 9).zeros(256).lengths(1).lengths(0).sameAgain(5).sameAgain(3).code("0"));
        dueText("16 behind 17", new Bits().block(true, 2).told(257, 9).zeros(256).lengths(1).fewZeros(4).sameAgain(5).code("0"));
        dueText("16 behind 18", new Bits().block(true, 2).told(257, 17).zeros(256).lengths(1).manyZeros(12).sameAgain(5).code("0"));
        // Symbols 256 .. 259 and distance symbols 0 .. 3 have two bits, in one row of eight.
        Bits over = new Bits().block(true, 2).told(260, 4).zeros(256).lengths(2).sameAgain(4).sameAgain(3);
        dueText("16 from symbols to distance symbols", over.code("00"));

        s.of(TERMS, "17 3 .. 10 (three bits), 18 11 .. 138 (seven bits) times 0.");
        for (int times = 3; times <= 10; times++) {
            dueZeros(times, new Bits().block(true, 2).told(257, 1).lengths(1).fewZeros(times));
        }
        for (int times : new int[] {11, 12, 13, 74, 75, 76, 137, 138}) {
            dueZeros(times, new Bits().block(true, 2).told(257, 1).lengths(1).manyZeros(times));
        }
        dueText("17 from symbols to distance symbols", new Bits().block(true, 2).told(259, 2).zeros(256).lengths(1).fewZeros(4).code("0"));
        dueText("18 from symbols to distance symbols",
            new Bits().block(true, 2).told(286, 30).zeros(256).lengths(1).manyZeros(59).code("0"));
    }

    /** A symbol of one bit, 0s, and again one of two bits. */
    private void dueZeros(int times, Bits bits) {
        bits.lengths(2).zeros(256 - times - 2).lengths(2).lengths(0);
        dueText(times + " times 0", bits.code("0").code("10").code("11"), 0, times + 1);
    }
}
