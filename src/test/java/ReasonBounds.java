import java.util.Arrays;

/** Terms: each reason for which unpacking ends, and the place behind which it does; promises 8 and 10. */
final class ReasonBounds {
    private static final String TERMS = "Terms";
    private static final int TRUNCATED = FlatBlocks.TRUNCATED, BAD_KIND = FlatBlocks.BAD_KIND, BAD_KEPT = FlatBlocks.BAD_KEPT,
        BAD_CODES = FlatBlocks.BAD_CODES, BAD_SYMBOL = FlatBlocks.BAD_SYMBOL, TOO_FAR = FlatBlocks.TOO_FAR, FULL = FlatBlocks.FULL;

    private final Sentences s;

    ReasonBounds(Sentences s) {
        this.s = s;
    }

    void run() {
        truncated();
        badKind();
        badKept();
        tooManySymbols();
        lengthsOfLengths();
        rowOfLengths();
        usableCodes();
        noCode();
        badSymbols();
        tooFar();
        full();
        unpack();
        bit();
    }

    private void dueText(String name, Bits bits, int... text) {
        Streams.dueText(s, name, bits, text);
    }

    private void dueEnd(String name, Bits bits, int why) {
        Streams.dueEnd(s, name, bits, why);
    }

    private void dueEnd(String name, int room, Bits bits, int why) {
        Streams.dueEnd(s, name, room, bits, why);
    }

    private void dueTruncated(String name, Bits bits) {
        Streams.dueTruncated(s, name, bits);
    }

    /** Symbols 255, 256 of two bits, 10 and 11; 257 of one bit, 0. */
    private static Bits withMatches(int... distanceLengths) {
        return new Bits().toldBlock(true, FormBounds.lengthsOf(258, 255, 2, 256, 2, 257, 1), distanceLengths);
    }

    private void truncated() {
        s.of(TERMS, "UNPACKING goes bit by bit, and ends at the first that cannot be, with: TRUNCATED: bytes end.");
        int[] symbolLengths = FormBounds.lengthsOf(258, 0, 2, 256, 2, 257, 1);
        Bits bits = new Bits().block(false, 0).kept(7, 8, 6).block(false, 1).fixed(9, 200, 267).number(1, 1).fixedDistance(4).number(0, 1)
            .fixed(256).toldBlock(true, symbolLengths, new int[] {0, 0, 0, 0, 0, 0, 0, 1}).code("0").code("0").number(2, 2)
            .code("10").code("11");
        int bit = bits.size();
        int[] bytes = bits.bytes();
        for (int cut = 0; cut < bytes.length; cut++) {
            Streams.due(s, "cut behind byte " + cut, 300, Arrays.copyOf(bytes, cut), TRUNCATED, 8 * cut);
        }
        s.due("not cut", Streams.due(s, "not cut", 300, bytes, 0, bit).count(3), 3 + 2 + 16 + 3 + 1);

        dueTruncated("no bytes", new Bits());
        dueTruncated("three bits of kind 0", new Bits().block(true, 0));
        dueTruncated("half of L", new Bits().block(true, 0).toWholeByte().number(2, 8));
        dueTruncated("L alone", new Bits().block(true, 0).toWholeByte().number(2, 16));
        dueTruncated("half of the other one, that is wrong", new Bits().block(true, 0).toWholeByte().number(2, 16).number(2, 8));
        dueTruncated("no kept bytes", new Bits().block(true, 0).toWholeByte().number(2, 16).number(~2, 16));
        dueTruncated("a kept byte is missing", new Bits().block(true, 0).toWholeByte().number(2, 16).number(~2, 16).number(1, 8));
        dueTruncated("a block that is not the last, and no other", new Bits().block(false, 0).kept(1));
        // 3 + 8 + 8 bits, and five of a code of seven to nine.
        dueTruncated("a code", new Bits().block(true, 1).fixed(8, 8).code("00000"));
        dueTruncated("a code that would be none at last", new Bits().block(true, 1).fixed(8, 8).code("11000"));
        // Three of the four bits of a number; four of the five bits of a distance symbol.
        dueTruncated("the number of a length", new Bits().block(true, 1).fixed(255, 255, 255, 277).code("111"));
        dueTruncated("a distance symbol that would be 30 or 31", new Bits().block(true, 1).fixed(255, 255, 257).code("1111"));
        dueTruncated("the number of a distance that is too far", new Bits().block(true, 1).fixed(65, 257).fixedDistance(20));
        for (int more = 0; more <= 29; more++) {
            dueTruncated(257 + more + " symbols", new Bits().block(true, 2).number(more, 5).number(29, 5).number(15, 4));
            dueTruncated(1 + more + " distance symbols", new Bits().block(true, 2).number(29, 5).number(more, 5).number(0, 4));
        }
    }

    private void badKind() {
        s.of(TERMS, "BAD_KIND: kind 3.");
        dueEnd("last", new Bits().block(true, 3), BAD_KIND);
        dueEnd("not the last", new Bits().block(false, 3), BAD_KIND);
        dueEnd("behind another block", new Bits().block(false, 1).fixed(1, 256).block(true, 3), BAD_KIND);
        dueEnd("behind kept bytes", new Bits().block(false, 0).kept(1, 2, 3).block(false, 3), BAD_KIND);
        dueEnd("in a full room", 3, new Bits().block(false, 0).kept(1, 2, 3).block(false, 3), BAD_KIND);
    }

    private void badKept() {
        s.of(TERMS, "BAD_KEPT: L and the other one.");
        for (int length : new int[] {0, 2, 0x8000, 0x5555, 0xFFFF}) {
            for (int i = 0; i < 16; i++) {
                dueEnd("L " + length + ", bit " + i + " not turned",
                    new Bits().block(true, 0).toWholeByte().number(length, 16).number(~length ^ 1 << i, 16), BAD_KEPT);
            }
            dueEnd("L " + length + " twice", new Bits().block(true, 0).toWholeByte().number(length, 16).number(length, 16), BAD_KEPT);
        }
        dueEnd("in a second block", new Bits().block(false, 0).kept(1).block(true, 0).toWholeByte().number(1, 16).number(~2, 16),
            BAD_KEPT);
    }

    private void tooManySymbols() {
        s.of(TERMS, "BAD_CODES, behind the three numbers: more than 286 symbols or 30 distance symbols;");
        for (int more = 30; more <= 31; more++) {
            for (int lengths : new int[] {0, 15}) {
                for (int other : new int[] {0, 29, 31}) {
                    dueEnd(257 + more + " symbols, " + (1 + other) + " distance symbols",
                        new Bits().block(true, 2).number(more, 5).number(other, 5).number(lengths, 4), BAD_CODES);
                    dueEnd(257 + other + " symbols, " + (1 + more) + " distance symbols",
                        new Bits().block(true, 2).number(other, 5).number(more, 5).number(lengths, 4), BAD_CODES);
                }
            }
        }
        // 286 and 30 are not too many: what is wrong comes later.
        dueEnd("286 symbols, 30 distance symbols", new Bits().block(true, 2).told(286, 30, new int[19]), BAD_CODES);
    }

    private void lengthsOfLengths() {
        s.of(TERMS, "behind the lengths of lengths: these are not complete;");
        dueTelling("none");
        for (int symbol = 0; symbol < 19; symbol++) {
            dueTelling("one alone, " + symbol, symbol, 1);
        }
        dueTelling("one of two bits", 1, 2);
        dueTelling("not all", 1, 1, 2, 2);
        dueTelling("not all, by one of seven bits", 0, 1, 1, 2, 2, 3, 3, 4, 4, 5, 5, 6, 6, 7);
        dueTelling("too many, by one of seven bits", 1, 1, 2, 1, 18, 7);
        dueTelling("far too many", 1, 1, 2, 1, 3, 1, 4, 1);
        Bits bits = new Bits().block(true, 2).told(257, 1, FormBounds.lengthsOf(19, 0, 1, 1, 2, 2, 3, 3, 4, 4, 5, 5, 6, 6, 7, 7, 7));
        dueTruncated("all, up to seven bits", bits);
        dueTruncated("two of one bit", new Bits().block(true, 2).told(257, 1, FormBounds.lengthsOf(19, 1, 1, 18, 1)));
    }

    private void dueTelling(String name, int... pairs) {
        dueEnd(name, new Bits().block(true, 2).told(257, 1, FormBounds.lengthsOf(19, pairs)), BAD_CODES);
    }

    private void rowOfLengths() {
        s.of(TERMS, "behind a symbol (and its number): 16 at first, or more lengths than there are;");
        for (int times = 3; times <= 6; times++) {
            dueEnd("16 at first, " + times, new Bits().block(true, 2).told(257, 1).sameAgain(times), BAD_CODES);
        }
        dueTruncated("16 at first, its number is cut", new Bits().block(true, 2).told(257, 1).code("11101"));
        for (int times = 3; times <= 10; times++) {
            Bits bits = new Bits().block(true, 2).told(257, times - 1).zeros(256).lengths(1).fewZeros(times);
            dueEnd("17 for " + times + ", one too many", bits, BAD_CODES);
            bits = new Bits().block(true, 2).told(257, times).zeros(256).lengths(1).fewZeros(times);
            dueText("17 for " + times + ", just as many", bits.code("0"));
        }
        for (int times : new int[] {11, 12, 29, 30}) {
            Bits bits = new Bits().block(true, 2).told(257, times - 1).zeros(256).lengths(1).manyZeros(times);
            dueEnd("18 for " + times + ", one too many", bits, BAD_CODES);
            bits = new Bits().block(true, 2).told(257, times).zeros(256).lengths(1).manyZeros(times);
            dueText("18 for " + times + ", just as many", bits.code("0"));
        }
        dueEnd("18 for 138, of one", new Bits().block(true, 2).told(257, 1).zeros(256).lengths(1).manyZeros(138), BAD_CODES);
        for (int times = 3; times <= 6; times++) {
            Bits bits = new Bits().block(true, 2).told(257, times - 1).zeros(256).lengths(1).sameAgain(times);
            dueEnd("16 for " + times + ", one too many", bits, BAD_CODES);
            bits = new Bits().block(true, 2).told(257, times + 1).zeros(256).lengths(1).lengths(0).sameAgain(times);
            dueText("16 for " + times + ", just as many", bits.code("0"));
        }
        // 316 lengths, the most there can be, and one more.
        Bits most = new Bits().block(true, 2).told(286, 30).zeros(256).lengths(1).lengths(0);
        dueText("316 lengths", most.copy().manyZeros(58).code("0"));
        dueEnd("317 lengths", most.copy().manyZeros(59), BAD_CODES);
        dueEnd("395 lengths", most.copy().manyZeros(137), BAD_CODES);
        dueEnd("many too many in all, by 16", new Bits().block(true, 2).told(257, 1).zeros(256).lengths(0).sameAgain(6), BAD_CODES);
    }

    private void usableCodes() {
        s.of(TERMS, "behind all: 256 has none, or symbols' lengths, or distance symbols', are not complete");
        dueUnusable("256 has none", FormBounds.lengthsOf(257, 5, 1, 6, 1), 0);
        dueUnusable("256 has none, one alone", FormBounds.lengthsOf(257, 5, 1), 0);
        dueUnusable("256 has none, 257 and 255 have", FormBounds.lengthsOf(258, 255, 1, 257, 1), 1);
        dueUnusable("no lengths at all", new int[257], 0);
        dueUnusable("no lengths of symbols, complete ones of distance symbols", new int[257], 1, 1);
        dueUnusable("some rows of bits are no symbol", FormBounds.lengthsOf(257, 5, 2, 256, 1), 0);
        dueUnusable("some rows of bits are two symbols", FormBounds.lengthsOf(258, 5, 1, 256, 1, 257, 1), 0);
        int[] good = FormBounds.lengthsOf(258, 255, 2, 256, 2, 257, 1);
        dueUnusable("two distances of two bits", good, 2, 2);
        dueUnusable("three distances of two bits", good, 2, 2, 2);
        dueUnusable("a distance of one bit, one of two", good, 1, 2);
        dueUnusable("a distance of one bit, one of fifteen", good, 1, 15);
        dueUnusable("three distances of one bit", good, 1, 1, 1);
        dueUnusable("two distances of one bit, one of fifteen", good, 1, 1, 15);
        dueUnusable("30 distances of one bit", good, Packs.like(1, 30));
        dueUnusable("both are wrong", FormBounds.lengthsOf(257, 5, 2, 256, 1), 2);
        dueText("both are complete", withMatches(2, 2, 2, 2).code("10").code("10").code("0").code("01").code("11"),
            255, 255, 255, 255, 255);
        dueText("of fifteen bits too", withMatches(1, 2, 3, 4, 5, 6, 7, 8, 9, 10, 11, 12, 13, 14, 15, 15)
            .code("10").code("0").code("0").code("11"), 255, 255, 255, 255);

        s.of(TERMS, "(but: one of them alone that has length 1, others none, may be;");
        int[] alone = FormBounds.lengthsOf(257, 256, 1);
        dueText("256 alone", new Bits().toldBlock(true, alone, new int[1]).code("0"));
        dueText("256 alone, and more symbols that have none",
            new Bits().toldBlock(true, FormBounds.lengthsOf(286, 256, 1), new int[30]).code("0"));
        dueText("256 and a distance, each alone", new Bits().toldBlock(true, alone, new int[] {1}).code("0"));
        for (int length = 2; length <= 15; length++) {
            dueUnusable("256 alone, of " + length + " bits", FormBounds.lengthsOf(257, 256, length), 0);
            dueUnusable("a distance alone, of " + length + " bits", good, length);
            dueUnusable("a later distance alone, of " + length + " bits", good, 0, 0, 0, length);
        }
        dueText("a distance alone", withMatches(1).code("10").code("0").code("0").code("11"), 255, 255, 255, 255);
        dueText("a later distance alone", withMatches(0, 0, 1).code("10").code("10").code("10").code("0").code("0").code("11"),
            255, 255, 255, 255, 255, 255);
        dueText("the last distance alone", new Bits().toldBlock(true, good, FormBounds.lengthsOf(30, 29, 1)).code("10").code("11"), 255);

        s.of(TERMS, "distances may have none at all).");
        dueText("one that has none", withMatches(0).code("10").code("11"), 255);
        dueText("thirty that have none", new Bits().toldBlock(true, good, new int[30]).code("10").code("11"), 255);
    }

    private void dueUnusable(String name, int[] symbolLengths, int... distanceLengths) {
        dueEnd(name, new Bits().toldBlock(true, symbolLengths, distanceLengths), BAD_CODES);
    }

    private void noCode() {
        s.of(TERMS, "BAD_SYMBOL: bits that begin with no code (behind as many bits as the longest code has),");
        dueEnd("256 alone", new Bits().toldBlock(true, FormBounds.lengthsOf(257, 256, 1), new int[1]).code("1"), BAD_SYMBOL);
        dueEnd("a distance alone", withMatches(1).code("10").code("0").code("1"), BAD_SYMBOL);
        dueEnd("a distance alone, without a text", withMatches(1).code("0").code("1"), BAD_SYMBOL);
        dueEnd("a later distance alone", withMatches(0, 0, 1).code("10").code("0").code("1"), BAD_SYMBOL);
        int[] longer = FormBounds.lengthsOf(266, 255, 2, 256, 2, 265, 1);
        dueEnd("a distance alone, behind the number of a length",
            new Bits().toldBlock(true, longer, new int[] {1}).code("10").code("0").number(1, 1).code("1"), BAD_SYMBOL);
        // The longest of no codes has no bits.
        dueEnd("no distances", withMatches(0).code("10").code("0"), BAD_SYMBOL);
        dueEnd("no distances, behind the number of a length",
            new Bits().toldBlock(true, longer, new int[1]).code("10").code("0").number(0, 1), BAD_SYMBOL);
        for (int bytes = 0; bytes < 4; bytes++) {
            // One of these ends with a byte: none is missing.
            dueEnd("no distances, " + bytes + " bytes before", withMatches(0, 0).code("10".repeat(bytes)).code("0"), BAD_SYMBOL);
            dueEnd("no distances, " + bytes + " bytes before", withMatches(0).code("10".repeat(bytes)).code("0"), BAD_SYMBOL);
        }
    }

    private void badSymbols() {
        s.of(TERMS, "symbol 286, 287, or distance symbol 30, 31 (behind its bits).");
        for (int symbol = 286; symbol <= 287; symbol++) {
            dueEnd("symbol " + symbol, new Bits().block(true, 1).fixed(65, symbol), BAD_SYMBOL);
            dueEnd("symbol " + symbol + " at first", new Bits().block(false, 1).fixed(symbol), BAD_SYMBOL);
            dueEnd("symbol " + symbol + " in a full room", 1, new Bits().block(true, 1).fixed(65, symbol), BAD_SYMBOL);
        }
        for (int d = 30; d <= 31; d++) {
            dueEnd("distance symbol " + d, new Bits().block(true, 1).fixed(65, 257).fixedDistance(d), BAD_SYMBOL);
            dueEnd("distance symbol " + d + " behind a number", new Bits().block(true, 1).fixed(65, 270).number(1, 2).fixedDistance(d),
                BAD_SYMBOL);
            dueEnd("distance symbol " + d + " without a text", new Bits().block(true, 1).fixed(285).fixedDistance(d), BAD_SYMBOL);
            dueEnd("distance symbol " + d + " in a full room", 1, new Bits().block(true, 1).fixed(65, 257).fixedDistance(d), BAD_SYMBOL);
        }
        // 285 and 29 are the last ones that may be: this one is too far.
        dueEnd("symbol 285, distance symbol 29", new Bits().block(true, 1).fixed(65, 285).fixedDistance(29).number(0, 13), TOO_FAR);
    }

    private void tooFar() {
        s.of(TERMS, "TOO_FAR: a distance above what is there.");
        dueEnd("nothing is there", new Bits().block(true, 1).match(3, 1), TOO_FAR);
        dueEnd("nothing is there, after empty blocks", new Bits().block(false, 1).fixed(256).block(false, 0).kept().block(true, 1)
            .match(258, 1), TOO_FAR);
        dueEnd("32,768 before one byte", new Bits().block(true, 1).fixed(9).match(3, 32_768), TOO_FAR);
        for (int size : new int[] {1, 2, 3, 4, 5, 6, 7, 8, 9, 12, 13, 24, 25, 192, 193, 1024, 1025, 24_576, 24_577, 32_766, 32_767}) {
            Bits bits = new Bits().block(true, 1).like(9, size);
            dueEnd("one above " + size, 40_000, bits.copy().match(3, size + 1), TOO_FAR);
            dueEnd("just " + size, 40_000, bits.copy().match(3, size).fixed(256), 0);
        }
        // What an earlier block brought is there too.
        Bits two = new Bits().block(false, 0).kept(1, 2).block(true, 1).fixed(3);
        dueEnd("over two blocks", two.copy().match(3, 4), TOO_FAR);
        dueText("over two blocks, just", two.copy().match(3, 3).fixed(256), 1, 2, 3, 1, 2, 3);
        // Of what the last unpack() brought, nothing is there.
        FlatBlocks x = Streams.loaded(100, new Bits().block(true, 1).like(9, 50).fixed(256).bytes());
        s.due("unpack()", x.unpack(), 0);
        x.take();
        Texts.load(x, new Bits().block(true, 1).fixed(9).match(3, 2).fixed(256).bytes());
        s.due("unpack() of another stream", x.unpack(), TOO_FAR);
        s.due("bit()", x.bit(), 3 + 8 + 7 + 5);
        dueEnd("too far by told codes", withMatches(1, 2, 2).code("10").code("0").code("10"), TOO_FAR);
        dueEnd("too far in a full room", 2, new Bits().block(true, 1).fixed(1, 2).match(6, 3), TOO_FAR);
    }

    private void full() {
        s.of(TERMS, "FULL: no room for a byte (in a match or kept ones, when it comes to it).");
        dueText("just room for bytes", new Bits().block(true, 1).fixed(1, 2, 200, 256), 1, 2, 200);
        dueEnd("a byte too many", 2, new Bits().block(true, 1).fixed(1, 2, 200), FULL);
        dueEnd("a byte too many in the least room", 1, new Bits().block(true, 1).fixed(1, 2), FULL);
        dueEnd("a byte too many in a second block", 1, new Bits().block(false, 0).kept(5).block(true, 1).fixed(5), FULL);
        dueEnd("a byte too many by told codes", 1, withMatches(0).code("10").code("10"), FULL);

        dueText("just room for a match", new Bits().block(true, 1).fixed(1, 2).match(4, 1).fixed(256), 1, 2, 2, 2, 2, 2);
        for (int room = 2; room <= 5; room++) {
            dueEnd("a match in a room of " + room, room, new Bits().block(true, 1).fixed(1, 2).match(4, 1), FULL);
        }
        Bits most = new Bits().block(true, 1).like(9, 69_743);
        dueEnd("the longest match, just room in the largest", 70_000, most.copy().match(257, 1).fixed(256), 0);
        dueEnd("the longest match, a byte too long for the largest", 70_000, most.copy().match(258, 1), FULL);

        int[] five = {1, 2, 3, 4, 5};
        dueText("just room for kept ones", new Bits().block(true, 0).kept(five), five);
        for (int room = 1; room <= 4; room++) {
            // It comes to the byte when its bits are there.
            Bits upTo = new Bits().block(true, 0).toWholeByte().number(5, 16).number(~5, 16);
            for (int i = 0; i <= room; i++) {
                upTo.number(five[i], 8);
            }
            dueEnd("kept ones in a room of " + room, room, upTo, FULL);
        }
        dueEnd("65,535 kept ones in a room of one", 1,
            new Bits().block(true, 0).toWholeByte().number(65_535, 16).number(0, 16).number(1, 8).number(2, 8), FULL);
        dueText("none kept, in a full room", new Bits().block(false, 0).kept(5).block(true, 0).kept(), 5);
    }

    private void unpack() {
        s.of("Promise 8: unpack", "Unpacks: 0; or why not: there is no text then.");
        FlatBlocks x = new FlatBlocks(100, 100, 1);
        s.due("unpack() of no bytes", x.unpack(), TRUNCATED);
        Texts.load(x, new Bits().block(false, 0).kept(1, 2, 3).bytes());
        s.due("unpack() without a last block", x.unpack(), TRUNCATED);
        s.due("count(3)", x.count(3), 0);
        s.due("out(0)", x.out(0), FlatBlocks.BAD);
        s.due("count(2), the bytes stay", x.count(2), 8);
        Texts.load(x, new Bits().block(true, 0).kept(4).bytes());
        s.due("unpack() of both blocks", x.unpack(), 0);
        Texts.dueUnpacked(s, "both blocks", x, new int[] {1, 2, 3, 4});
        s.due("unpack() once more", x.unpack(), 0);
        Texts.dueUnpacked(s, "once more", x, new int[] {1, 2, 3, 4});
        x.take();
        s.due("count(3) before the next", x.count(3), 4);
        s.due("unpack() of no bytes after a text", x.unpack(), TRUNCATED);
        s.due("count(3), the text is gone", x.count(3), 0);
        s.due("out(0), the text is gone", x.out(0), FlatBlocks.BAD);
        dueTextGone("kind 3", new Bits().block(false, 1).fixed(7, 256).block(true, 3), BAD_KIND);
        dueTextGone("kept", new Bits().block(false, 1).fixed(7, 256).block(true, 0).toWholeByte().number(0, 32), BAD_KEPT);
        dueTextGone("codes", new Bits().block(false, 1).fixed(7, 256).block(true, 2).number(31, 14), BAD_CODES);
        dueTextGone("symbol", new Bits().block(true, 1).fixed(7, 286), BAD_SYMBOL);
        dueTextGone("far", new Bits().block(true, 1).fixed(7).match(3, 2), TOO_FAR);
        dueTextGone("full", new Bits().block(true, 1).fixed(7).match(258, 1), FULL);

        s.of("Promise 8: unpack", "(Bytes behind the last block do not matter.)");
        for (int b = 0; b < 256; b += 17) {
            Bits bits = new Bits().block(true, 1).fixed(7, 256);
            int bit = bits.size();
            x = Streams.due(s, "bytes " + b, 1, bits.toWholeByte().number(b, 8).number(b, 8).bytes(), 0, bit);
            Texts.dueUnpacked(s, "bytes " + b, x, new int[] {7});
            x = Streams.due(s, "kept, bytes " + b, 1, new Bits().block(true, 0).kept(7).number(b, 8).number(b, 8).bytes(), 0, 48);
            Texts.dueUnpacked(s, "kept, bytes " + b, x, new int[] {7});
        }
    }

    /** A text that was there, and the bytes that came before it went wrong, are both gone. */
    private void dueTextGone(String name, Bits bits, int why) {
        FlatBlocks x = new FlatBlocks(100, 100, 1);
        x.pack();
        x.reset();
        Texts.feed(x, new int[] {1, 2, 3});
        x.pack();
        x.take();
        x.unpack();
        s.due(name + ": same() before", x.same(), true);
        x.reset();
        Texts.load(x, bits.bytes());
        s.due(name + ": unpack()", x.unpack(), why);
        s.due(name + ": count(3)", x.count(3), 0);
        s.due(name + ": out(0)", x.out(0), FlatBlocks.BAD);
        s.due(name + ": same() as a text of no bytes", x.same(), true);
        x.feed(7);
        s.due(name + ": same() as what came first", x.same(), false);
    }

    private void bit() {
        s.of("Promise 10: bit", "How many bits the last unpack() took");
        FlatBlocks x = Streams.loaded(10, new Bits().block(true, 1).fixed(7, 256).bytes());
        x.unpack();
        s.due("bit()", x.bit(), 18);
        x.unpack();
        s.due("bit() after unpack() once more", x.bit(), 18);
        x.feed(1);
        x.pack();
        x.take();
        s.due("bit() before the next unpack()", x.bit(), 18);
        x.unpack();
        s.due("bit() after it", x.bit(), 48);
        x.load(255);
        x.unpack();
        s.due("bit() with a byte behind", x.bit(), 48);

        s.of("Promise 10: bit", "(0 before one;");
        x = new FlatBlocks(10, 20, 1);
        s.due("bit()", x.bit(), 0);
        x.feed(1);
        x.load(1);
        x.pack();
        x.take();
        x.out(0);
        s.due("bit() after other calls", x.bit(), 0);

        s.of("Promise 10: bit", "all there were, if it was TRUNCATED).");
        s.due("unpack()", x.unpack(), 0);
        s.due("bit()", x.bit(), 48);
        x.reset();
        s.due("unpack() of no bytes", x.unpack(), TRUNCATED);
        s.due("bit() of no bytes", x.bit(), 0);
        for (int bytes = 1; bytes <= 6; bytes++) {
            x.load(bytes == 4 || bytes == 5 ? 255 : 0);
            s.due("unpack() of " + bytes, x.unpack(), TRUNCATED);
            s.due("bit() of " + bytes, x.bit(), 8 * bytes);
        }
    }
}
