import java.util.Arrays;

/** Promises 6 to 11: load, take, unpack, out, bit, same; each reason with the bit behind which it is found. */
public final class UnpackTest {
    private static final Checks CHECKS = new Checks();
    private static final int TRUNCATED = FlatBlocks.TRUNCATED, BAD_CODES = FlatBlocks.BAD_CODES, BAD_SYMBOL = FlatBlocks.BAD_SYMBOL;

    public static void main(String[] args) {
        loadTakesBytesWhileThereIsRoom();
        takeCopiesWhatWasPacked();
        aFailedUnpackLeavesNoText();
        bytesBehindDoNotMatter();
        sameTellsTexts();
        truncatedAnywhere();
        kinds();
        kept();
        fixedBytes();
        fixedMatches();
        fixedBadSymbols();
        tooFar();
        full();
        tooManySymbols();
        codesOfLengths();
        rowsOfLengths();
        codesOfSymbols();
        codesOfDistances();
        CHECKS.end();
    }

    private static FlatBlocks dueOf(String name, int room, int[] bytes, int why, int bit) {
        FlatBlocks x = new FlatBlocks(room, 1000, 1);
        Texts.load(x, bytes);
        CHECKS.due(name + ": unpack()", x.unpack(), why);
        CHECKS.due(name + ": bit()", x.bit(), bit);
        if (why != 0) {
            CHECKS.due(name + ": count(3)", x.count(3), 0);
            CHECKS.due(name + ": out(0)", x.out(0), FlatBlocks.BAD);
        }
        return x;
    }

    /** What is wrong is found behind all bits that were written: none that follow are taken. */
    private static void dueBad(String name, Bits bits, int why) {
        int bit = bits.size();
        dueOf(name, 300, bits.number(0xFFFFFF, 24).bytes(), why, bit);
    }

    private static void dueGood(String name, Bits bits, int... text) {
        int bit = bits.size();
        Texts.dueUnpacked(CHECKS, name, dueOf(name, 300, bits.number(0xFFFFFF, 24).bytes(), 0, bit), text);
    }

    private static void dueTruncated(String name, Bits bits) {
        int[] bytes = bits.bytes();
        dueOf(name, 300, bytes, TRUNCATED, 8 * bytes.length);
    }

    private static void loadTakesBytesWhileThereIsRoom() {
        FlatBlocks x = new FlatBlocks(5, 16, 1);
        int[] wrong = {-1, 256, Integer.MIN_VALUE, Integer.MAX_VALUE};
        for (int b : wrong) {
            CHECKS.due("load(" + b + ")", x.load(b), false);
        }
        CHECKS.due("count(2)", x.count(2), 0);
        for (int i = 0; i < 16; i++) {
            CHECKS.due("load within the room", x.load(i == 0 ? 255 : 0), true);
        }
        CHECKS.due("load without room", x.load(0), false);
        CHECKS.due("count(2)", x.count(2), 16);
        CHECKS.due("count(0)", x.count(0), 0);
        CHECKS.due("count(1)", x.count(1), 0);
    }

    private static void takeCopiesWhatWasPacked() {
        FlatBlocks x = new FlatBlocks(100, 100, 1);
        Texts.feed(x, new int[] {1, 2, 3});
        x.load(9);
        CHECKS.due("take() of nothing", x.take(), 0);
        CHECKS.due("count(2)", x.count(2), 0);
        CHECKS.due("pack()", x.pack(), 8);
        CHECKS.due("unpack() before take()", x.unpack(), TRUNCATED);
        x.load(7);
        CHECKS.due("take()", x.take(), 8);
        CHECKS.due("count(2)", x.count(2), 8);
        CHECKS.due("count(1)", x.count(1), 8);
        x.load(200);
        CHECKS.due("load behind what was taken: count(2)", x.count(2), 9);
        CHECKS.due("load leaves what was packed", x.count(1), 8);
        x.feed(4);
        x.pack();
        CHECKS.due("pack() leaves what is unpacked", x.count(2), 9);
        CHECKS.due("unpack()", x.unpack(), 0);
        CHECKS.due("bit()", x.bit(), 64);
        Texts.dueUnpacked(CHECKS, "taken", x, new int[] {1, 2, 3});
        CHECKS.due("same() with an older text", x.same(), false);
    }

    private static void aFailedUnpackLeavesNoText() {
        FlatBlocks x = new FlatBlocks(100, 100, 1);
        Texts.load(x, new Bits().block(false, 0).kept(1, 2, 3).bytes());
        CHECKS.due("no last block", x.unpack(), TRUNCATED);
        CHECKS.due("no text", x.count(3), 0);
        CHECKS.due("no byte", x.out(0), FlatBlocks.BAD);
        Texts.load(x, new Bits().block(true, 0).kept(4).bytes());
        CHECKS.due("now there is one", x.unpack(), 0);
        Texts.dueUnpacked(CHECKS, "two blocks", x, new int[] {1, 2, 3, 4});
        CHECKS.due("out(-1)", x.out(-1), FlatBlocks.BAD);
        CHECKS.due("out(Integer.MAX_VALUE)", x.out(Integer.MAX_VALUE), FlatBlocks.BAD);
        CHECKS.due("again", x.unpack(), 0);
        CHECKS.due("bit()", x.bit(), 112);
        x.take();
        CHECKS.due("take() leaves the unpacked text", x.count(3), 4);
        CHECKS.due("take() leaves bit()", x.bit(), 112);
        CHECKS.due("nothing to unpack", x.unpack(), TRUNCATED);
        CHECKS.due("no text any more", x.count(3), 0);
        CHECKS.due("bit()", x.bit(), 0);
    }

    private static void bytesBehindDoNotMatter() {
        for (int b = 0; b < 256; b += 51) {
            Bits bits = new Bits().block(true, 1).fixed('x').fixed(256);
            int bit = bits.size();
            FlatBlocks x = dueOf("bytes behind", 5, bits.toWholeByte().number(b, 8).number(b, 8).bytes(), 0, bit);
            Texts.dueUnpacked(CHECKS, "bytes behind", x, new int[] {'x'});
        }
    }

    private static void sameTellsTexts() {
        FlatBlocks x = new FlatBlocks(100, 100, 1);
        CHECKS.due("both empty", x.same(), true);
        Texts.feed(x, new int[] {5, 6});
        CHECKS.due("nothing unpacked", x.same(), false);
        Texts.load(x, new Bits().block(true, 0).kept(5, 6).bytes());
        CHECKS.due("not unpacked yet", x.same(), false);
        x.unpack();
        CHECKS.due("alike", x.same(), true);
        x.feed(7);
        CHECKS.due("longer", x.same(), false);
        x.reset();
        Texts.feed(x, new int[] {5, 6});
        Texts.load(x, new Bits().block(true, 0).kept(5, 7).bytes());
        x.unpack();
        CHECKS.due("another last byte", x.same(), false);
        x.reset();
        Texts.load(x, new Bits().block(true, 0).kept(5).block(true, 3).bytes());
        x.unpack();
        CHECKS.due("a text against none", x.same(), false);
        x.reset();
        Texts.load(x, new Bits().block(false, 0).kept(5).block(true, 3).bytes());
        CHECKS.due("a bad stream", x.unpack(), FlatBlocks.BAD_KIND);
        CHECKS.due("no text is one of no bytes", x.same(), true);
    }

    /** A stream of all kinds, cut off behind each of its bytes. */
    private static void truncatedAnywhere() {
        int[] lengthOf = new int[19];
        lengthOf[1] = 2;
        lengthOf[2] = 2;
        lengthOf[18] = 2;
        lengthOf[17] = 2;
        // Symbols 0 (2 bits), 256 (2 bits), 257 (1 bit); one distance symbol of 1 bit; codes of lengths by value.
        Bits bits = new Bits().block(false, 0).kept(7, 8, 6).block(false, 1).fixed(9).fixed(200).fixed(267).number(1, 1)
            .fixedDistance(4).number(0, 1).fixed(256).block(true, 2).told(258, 1, lengthOf)
            .code("01").code("11").number(127, 7).code("11").number(106, 7).code("01").code("00").code("00")
            .code("0").code("0").code("10").code("11");
        int bit = bits.size();
        int[] bytes = bits.bytes();
        for (int cut = 0; cut < bytes.length; cut++) {
            dueOf("cut behind " + cut, 300, Arrays.copyOf(bytes, cut), TRUNCATED, 8 * cut);
        }
        FlatBlocks x = dueOf("not cut", 300, bytes, 0, bit);
        CHECKS.due("not cut: count(3)", x.count(3), 3 + 2 + 16 + 3 + 1);
    }

    private static void kinds() {
        dueBad("kind 3", new Bits().block(true, 3), FlatBlocks.BAD_KIND);
        dueBad("kind 3, not the last", new Bits().block(false, 3), FlatBlocks.BAD_KIND);
        dueBad("kind 3 as second block", new Bits().block(false, 1).fixed(256).block(false, 3), FlatBlocks.BAD_KIND);
        dueGood("empty block of kind 1", new Bits().block(true, 1).fixed(256));
        dueGood("many blocks", new Bits().block(false, 1).fixed(1).fixed(256).block(false, 0).kept(2)
            .block(false, 1).fixed(3).fixed(256).block(false, 0).kept().block(true, 0).kept(4), 1, 2, 3, 4);
        dueOf("no bytes", 300, new int[0], TRUNCATED, 0);
        dueTruncated("no last block", new Bits().block(false, 1).fixed(256).code("000000"));
    }

    private static void kept() {
        dueGood("none kept", new Bits().block(true, 0).kept());
        dueGood("three kept", new Bits().block(true, 0).kept(0, 255, 128), 0, 255, 128);
        dueGood("bits up to a whole byte are any", new Bits().block(true, 0).code("11111").kept(5), 5);
        for (int i = 0; i < 16; i++) {
            dueBad("bit " + i + " not turned", new Bits().block(true, 0).toWholeByte().number(2, 16).number(~2 ^ 1 << i, 16),
                FlatBlocks.BAD_KEPT);
        }
        dueBad("like numbers", new Bits().block(true, 0).toWholeByte().number(0, 16).number(0, 16), FlatBlocks.BAD_KEPT);
        dueTruncated("L ends", new Bits().block(true, 0).toWholeByte().number(2, 8));
        dueTruncated("the other one ends", new Bits().block(true, 0).toWholeByte().number(2, 16).number(~2, 8));
        dueTruncated("bytes end", new Bits().block(true, 0).toWholeByte().number(2, 16).number(~2, 16).number(1, 8));
        dueTruncated("65,535 bytes", new Bits().block(true, 0).toWholeByte().number(65_535, 16).number(0, 16).number(1, 8));
    }

    private static void fixedBytes() {
        Bits bits = new Bits().block(true, 1);
        int[] text = new int[256];
        for (int b = 0; b < 256; b++) {
            bits.fixed(b);
            text[b] = b;
        }
        dueGood("all bytes", bits.fixed(256), text);
        dueTruncated("a code ends", new Bits().block(true, 1).fixed(8).code("00000"));
    }

    private static void fixedMatches() {
        for (int length = 3; length <= 258; length++) {
            for (int k = 0; k <= 28; k++) {
                int e = k < 8 || k == 28 ? 0 : k / 4 - 1;
                int least = k == 28 ? 258 : k < 8 ? 3 + k : 3 + (4 + k % 4 << e);
                if (length >= least && length < least + (1 << e)) {
                    Bits bits = new Bits().block(true, 1).fixed(77).fixed(257 + k).number(length - least, e)
                        .fixedDistance(0).fixed(256);
                    int bit = bits.size();
                    FlatBlocks x = dueOf("length " + length + " by " + k, 300, bits.bytes(), 0, bit);
                    CHECKS.due("length " + length + " by " + k + ": count(3)", x.count(3), 1 + length);
                }
            }
        }
        for (int d = 0; d < 30; d++) {
            dueDistance(d, 0);
            dueDistance(d, 1);
        }
        dueGood("a match over itself", new Bits().block(true, 1).fixed(1).fixed(2).fixed(3).fixed(259).fixedDistance(1).fixed(256),
            1, 2, 3, 2, 3, 2, 3, 2);
        dueGood("a match of an earlier block", new Bits().block(false, 0).kept(1, 2, 3).block(true, 1).fixed(257).fixedDistance(2)
            .fixed(256), 1, 2, 3, 1, 2, 3);
    }

    /** The least and the greatest distance of a symbol: a text of just so many bytes is enough for it. */
    private static void dueDistance(int d, int greatest) {
        int e = d < 4 ? 0 : d / 2 - 1;
        int distance = (d < 4 ? 1 + d : 1 + (2 + d % 2 << e)) + greatest * ((1 << e) - 1);
        for (int missing = 0; missing < 2; missing++) {
            int size = distance - missing;
            FlatBlocks x = new FlatBlocks(70_000, 80_000, 1);
            int[] start = new int[size];
            for (int i = 0; i < size; i++) {
                start[i] = i < 3 ? 200 + i : i & 127;
            }
            Bits bits = new Bits().block(false, 0).kept(start).block(true, 1).fixed(257).fixedDistance(d)
                .number(greatest * ((1 << e) - 1), e);
            int bit = bits.size();
            Texts.load(x, bits.fixed(256).bytes());
            String name = "distance " + distance + ", text of " + size;
            CHECKS.due(name + ": unpack()", x.unpack(), missing == 0 ? 0 : FlatBlocks.TOO_FAR);
            CHECKS.due(name + ": bit()", x.bit(), missing == 0 ? bit + 7 : bit);
            CHECKS.due(name + ": first byte again", x.out(size), missing == 0 ? 200 : FlatBlocks.BAD);
        }
    }

    private static void fixedBadSymbols() {
        dueBad("symbol 286", new Bits().block(true, 1).fixed(65).fixed(286), BAD_SYMBOL);
        dueBad("symbol 287", new Bits().block(true, 1).fixed(65).fixed(287), BAD_SYMBOL);
        dueBad("distance symbol 30", new Bits().block(true, 1).fixed(65).fixed(257).fixedDistance(30), BAD_SYMBOL);
        dueBad("distance symbol 31", new Bits().block(true, 1).fixed(65).fixed(270).number(1, 2).fixedDistance(31), BAD_SYMBOL);
        dueBad("distance symbol 30 without a text", new Bits().block(true, 1).fixed(257).fixedDistance(30), BAD_SYMBOL);
    }

    private static void tooFar() {
        dueBad("no byte before", new Bits().block(true, 1).fixed(257).fixedDistance(0), FlatBlocks.TOO_FAR);
        dueBad("one byte before", new Bits().block(true, 1).fixed(65).fixed(257).fixedDistance(1), FlatBlocks.TOO_FAR);
        dueBad("behind the number", new Bits().block(true, 1).fixed(65).fixed(257).fixedDistance(20).number(3, 9), FlatBlocks.TOO_FAR);
        dueTruncated("a number that ends", new Bits().block(true, 1).fixed(65).fixed(257).fixedDistance(20));
    }

    private static void full() {
        Bits bits = new Bits().block(true, 1).fixed(1).fixed(2).fixed(3);
        int bit = bits.size();
        dueOf("a byte too many", 2, bits.fixed(256).bytes(), FlatBlocks.FULL, bit);
        dueOf("just room for bytes", 3, bits.bytes(), 0, bit + 7);

        bits = new Bits().block(true, 1).fixed(1).fixed(2).fixed(260).fixedDistance(0);
        bit = bits.size();
        dueOf("a match too long", 7, bits.fixed(256).bytes(), FlatBlocks.FULL, bit);
        dueOf("no room for a match", 2, bits.bytes(), FlatBlocks.FULL, bit);
        dueOf("just room for a match", 8, bits.bytes(), 0, bit + 7);
        bits = new Bits().block(true, 1).fixed(1).fixed(2).fixed(260).fixedDistance(2);
        dueOf("too far before full", 2, bits.bytes(), FlatBlocks.TOO_FAR, bit);

        int[] kept = {1, 2, 3, 4, 5};
        dueOf("a kept byte too many", 4, new Bits().block(true, 0).kept(kept).bytes(), FlatBlocks.FULL, 80);
        dueOf("just room for kept ones", 5, new Bits().block(true, 0).kept(kept).bytes(), 0, 80);
        dueOf("full when it comes to it", 2, new Bits().block(true, 0).kept(kept).bytes(), FlatBlocks.FULL, 64);
        int[] cut = Arrays.copyOf(new Bits().block(true, 0).kept(kept).bytes(), 9);
        dueOf("bytes end where the room does", 4, cut, TRUNCATED, 72);
        dueOf("bytes end before the room does", 5, cut, TRUNCATED, 72);
    }

    private static void tooManySymbols() {
        for (int more = 0; more < 32; more++) {
            Bits symbols = new Bits().block(true, 2).number(more, 5).number(0, 5).number(0, 4);
            Bits distances = new Bits().block(true, 2).number(0, 5).number(more, 5).number(15, 4);
            if (more > 29) {
                dueBad(257 + more + " symbols", symbols, BAD_CODES);
                dueBad(1 + more + " distance symbols", distances, BAD_CODES);
            } else {
                dueTruncated(257 + more + " symbols", symbols);
                dueTruncated(1 + more + " distance symbols", distances);
            }
        }
    }

    private static void codesOfLengths() {
        dueTelling("none", false);
        dueTelling("one alone", false, 1, 1);
        dueTelling("one of two bits", false, 1, 2);
        dueTelling("not all rows", false, 1, 1, 2, 2);
        dueTelling("not all rows, by one of seven bits", false, 0, 1, 1, 2, 2, 3, 3, 4, 4, 5, 5, 6, 6, 7);
        dueTelling("all rows, up to seven bits", true, 0, 1, 1, 2, 2, 3, 3, 4, 4, 5, 5, 6, 6, 7, 7, 7);
        dueTelling("two of one bit", true, 1, 1, 18, 1);
        dueTelling("too many", false, 1, 1, 2, 1, 18, 7);
        dueTelling("far too many", false, 1, 1, 2, 1, 3, 1, 4, 1);
        Bits few = new Bits().block(true, 2).number(0, 5).number(0, 5).number(0, 4).number(0, 3).number(0, 3).number(1, 3).number(1, 3);
        // 18 is 1, 0 is 0: all lengths are 0, so 256 has none.
        dueBad("four lengths are enough", few.code("1").number(127, 7).code("1").number(109, 7), BAD_CODES);
    }

    /** Pairs of a symbol and its length; if these are complete, the row that follows is looked at. */
    private static void dueTelling(String name, boolean complete, int... pairs) {
        int[] lengthOf = new int[19];
        for (int i = 0; i < pairs.length; i += 2) {
            lengthOf[pairs[i]] = pairs[i + 1];
        }
        Bits bits = new Bits().block(true, 2).told(257, 1, lengthOf);
        if (complete) {
            dueTruncated("codes of lengths: " + name, bits);
        } else {
            dueBad("codes of lengths: " + name, bits, BAD_CODES);
        }
    }

    /** Codes of lengths: 1 is 00, 16 is 01, 17 is 10, 18 is 11. */
    private static Bits row(int symbols, int distances) {
        int[] lengthOf = new int[19];
        lengthOf[1] = 2;
        lengthOf[16] = 2;
        lengthOf[17] = 2;
        lengthOf[18] = 2;
        return new Bits().block(true, 2).told(symbols, distances, lengthOf);
    }

    private static Bits zeros(Bits bits, int times) {
        int left = times;
        while (left > 0) {
            int now = left > 138 ? Math.min(138, left - 3) : left;
            if (now >= 11) {
                bits.code("11").number(now - 11, 7);
            } else {
                bits.code("10").number(now - 3, 3);
            }
            left -= now;
        }
        return bits;
    }

    private static void rowsOfLengths() {
        dueBad("16 at first", row(257, 1).code("01").number(0, 2), BAD_CODES);
        dueBad("16 at first, six times", row(257, 1).code("01").number(3, 2), BAD_CODES);
        dueGood("just as many", zeros(row(257, 3), 256).code("00").code("10").number(0, 3).code("0"));
        dueBad("17 for one too many", zeros(row(257, 3), 256).code("00").code("10").number(1, 3), BAD_CODES);
        dueBad("18 for many too many", zeros(row(257, 3), 256).code("00").code("11").number(127, 7), BAD_CODES);
        dueBad("16 for too many", zeros(row(257, 3), 256).code("00").code("01").number(1, 2), BAD_CODES);
        dueBad("16 for just as many, not usable", zeros(row(257, 3), 256).code("00").code("01").number(0, 2), BAD_CODES);
        dueGood("16 for a 0", zeros(row(257, 9), 256).code("00").code("10").number(0, 3).code("01").number(3, 2).code("0"));
        dueGood("16 from symbols to distance symbols", zeros(row(259, 2), 255).code("00").code("00")
            .code("10").number(0, 3).code("00").code("0").code("1"), 255);
        dueGood("17 and 18 over both", zeros(row(260, 30), 256).code("00").code("11").number(33 - 11, 7).code("0"));
    }

    private static void codesOfSymbols() {
        dueBad("256 has none", zeros(zeros(row(257, 1), 200).code("00"), 57), BAD_CODES);
        dueBad("no lengths at all", zeros(row(257, 1), 258), BAD_CODES);
        dueGood("256 alone", zeros(zeros(row(257, 3), 256).code("00"), 3).code("0"));
        dueBad("256 alone, another bit", zeros(zeros(row(257, 3), 256).code("00"), 3).code("1"), BAD_SYMBOL);
        dueBad("three of one bit", zeros(row(259, 3), 256).code("00").code("00").code("00").code("10").number(0, 3), BAD_CODES);
        dueGood("two of one bit", zeros(row(258, 3), 200).code("00").code("10").number(7, 3).code("10").number(7, 3)
            .code("11").number(24, 7).code("00").code("10").number(1, 3).code("0").code("0").code("1"), 200, 200);
        int[] lengthOf = new int[19];
        lengthOf[2] = 1;
        lengthOf[18] = 1;
        dueBad("256 alone, of two bits", new Bits().block(true, 2).told(257, 11, lengthOf)
            .code("1").number(127, 7).code("1").number(107, 7).code("0").code("1").number(0, 7), BAD_CODES);
        dueBad("three of two bits", new Bits().block(true, 2).told(257, 11, lengthOf)
            .code("0").code("0").code("1").number(127, 7).code("1").number(105, 7).code("0").code("1").number(0, 7), BAD_CODES);
        dueGood("four of two bits", new Bits().block(true, 2).told(257, 11, lengthOf).code("0").code("0").code("0")
            .code("1").number(127, 7).code("1").number(104, 7).code("0").code("1").number(0, 7)
            .code("10").code("00").code("01").code("11"), 2, 0, 1);
    }

    /** Symbols 255, 256, 257 in front: 2, 2 and 1 bits; codes of lengths: 1 is 00, 2 is 01, 17 is 10, 18 is 11. */
    private static Bits withMatches(int distances) {
        int[] lengthOf = new int[19];
        lengthOf[1] = 2;
        lengthOf[2] = 2;
        lengthOf[17] = 2;
        lengthOf[18] = 2;
        return zeros(new Bits().block(true, 2).told(258, distances, lengthOf), 255).code("01").code("01").code("00");
    }

    /** The longest code has no bits then, so that none is missing where the bytes end. */
    private static void dueNoDistanceAtTheEnd() {
        Bits bits = withMatches(3).code("10").number(0, 3);
        for (int i = 0; i < 8 && bits.size() % 8 != 7; i++) {
            bits.code("10");
        }
        CHECKS.due("a match ends a byte", bits.size() % 8, 7);
        int[] bytes = bits.code("0").bytes();
        dueOf("no distances at the end", 300, bytes, BAD_SYMBOL, 8 * bytes.length);
    }

    private static void codesOfDistances() {
        String byteCode = "10";
        String end = "11";
        String match = "0";
        dueGood("no distances, no matches", withMatches(3).code("10").number(0, 3).code(byteCode).code(end), 255);
        dueBad("no distances, but a match", withMatches(3).code("10").number(0, 3).code(byteCode).code(match), BAD_SYMBOL);
        dueNoDistanceAtTheEnd();
        dueGood("one distance", withMatches(1).code("00").code(byteCode).code(match).code("0").code(end), 255, 255, 255, 255);
        dueBad("one distance, another bit", withMatches(1).code("00").code(byteCode).code(match).code("1"), BAD_SYMBOL);
        dueGood("one distance that is not the first", withMatches(4).code("10").number(0, 3).code("00")
            .code(byteCode).code(byteCode).code(byteCode).code(byteCode).code(match).code("0").code(end), 255, 255, 255, 255, 255, 255, 255);
        dueBad("one distance of two bits", withMatches(1).code("01"), BAD_CODES);
        dueBad("two distances of two bits", withMatches(2).code("01").code("01"), BAD_CODES);
        dueBad("not all rows", withMatches(2).code("00").code("01"), BAD_CODES);
        dueGood("all rows", withMatches(3).code("00").code("01").code("01").code(byteCode).code(end), 255);
        dueBad("too many", withMatches(3).code("00").code("00").code("01"), BAD_CODES);
        dueBad("too far by told codes", withMatches(3).code("00").code("01").code("01").code(byteCode).code(match).code("11"),
            FlatBlocks.TOO_FAR);
    }
}
