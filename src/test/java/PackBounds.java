import java.util.Arrays;
import java.util.List;
import java.util.Random;
import java.util.stream.Collectors;
import java.util.stream.IntStream;

/** Terms: packing; promise 4, and the CHAIN of promise 1. Each text reaches its case, and its bytes are as due. */
final class PackBounds {
    private static final String TERMS = "Terms";
    /** One byte and four of the longest matches, so that one block is shorter than kept bytes. */
    private static final int[] FRONT = Packs.like('z', 1 + 4 * 258);
    /** Fifteen bytes, 0 to 14, twenty times each, without a match: one block is shorter than kept bytes here too. */
    private static final int[] START = Packs.withoutMatches(Packs.like(20, 15));

    private final Sentences s;

    PackBounds(Sentences s) {
        this.s = s;
    }

    void run() {
        places();
        chain();
        farthest();
        longest();
        lengthsAndDistances();
        lengths();
        twoRarest();
        tooDeep();
        block();
        rowOfLengths();
        lengthsOfLengths();
        shorter();
        keptBlocks();
        bitsUpToAWholeByte();
        pack();
        noRoom();
    }

    /** Tokens as text: a byte is its letter, a match its length and its distance. */
    private static String tokensOf(PlainPacker plain, int from) {
        return plain.tokens.stream().skip(from)
            .map(token -> token.length == 1 ? String.valueOf((char) token[0]) : token[0] + ":" + token[1])
            .collect(Collectors.joining(" "));
    }

    private void dueTokens(String name, int chain, int[] rest, String tokens) {
        PlainPacker plain = Packs.due(s, name, Packs.joined(FRONT, rest), chain);
        dueWords(name, tokensOf(plain, 5), tokens);
    }

    private void dueWords(String name, String got, String want) {
        s.due(name + ", '" + got + "' is '" + want + "'", got.equals(want), true);
    }

    private void dueTokens(String rest, String tokens) {
        dueTokens(rest, 64, Packs.bytesOf(rest), tokens);
    }

    private void places() {
        s.of(TERMS, "PACKING. MATCHES: at each place, if three bytes are left:");
        dueTokens("", "");
        dueTokens("z", "z");
        dueTokens("zz", "z z");
        dueTokens("zzz", "3:1");
        dueTokens("abcab", "a b c a b");
        dueTokens("abcabc", "a b c 3:3");
        dueTokens("abcabca", "a b c 4:3");
        dueTokens("abcdabcab", "a b c d 3:4 a b");
        dueTokens("abcdabcabc", "a b c d 3:4 3:3");
        for (int size = 0; size <= 5; size++) {
            Packs.due(s, size + " like bytes", Packs.like(7, size), 64);
        }

        s.of(TERMS, "with the same three bytes there,");
        dueTokens("abdabcabe", "a b d a b c a b e");
        dueTokens("abcxbcybca", "a b c x b c y b c a");
        dueTokens("abcabdabc", "a b c a b d 3:6");
        dueTokens("abxabcabc", "a b x a b c 3:3");
        dueOthersBetween();
    }

    /** Places that the program's search holds in one row with the right one, but that have other bytes: none of them counts. */
    private void dueOthersBetween() {
        int[] three = Packs.bytesOf("abc");
        int slot = 0x616263 * 0x9E3779B1 >>> 20;
        int[] others = IntStream.range(0, 1 << 24).filter(i -> i != 0x616263 && i * 0x9E3779B1 >>> 20 == slot).limit(130)
            .flatMap(i -> IntStream.of(i >> 16, i >> 8 & 255, i & 255)).toArray();
        PlainPacker plain = Packs.due(s, "130 places of other bytes", Packs.joined(FRONT, three, others, three), 1);
        dueWords("130 places of other bytes", tokensOf(plain, plain.tokens.size() - 1), "3:393");
        s.due("130 places of other bytes: in one block", plain.toldSize < plain.keptSize, true);
    }

    private void chain() {
        s.of(TERMS, "of up to CHAIN latest earlier places,");
        int[] text = Packs.bytesOf("abcde1abcx2abcy3abcde");
        dueTokens("the longest is third, chain 1", 1, text, "a b c d e 1 3:6 x 2 3:5 y 3 3:5 d e");
        dueTokens("the longest is third, chain 2", 2, text, "a b c d e 1 3:6 x 2 3:5 y 3 3:5 d e");
        dueTokens("the longest is third, chain 3", 3, text, "a b c d e 1 3:6 x 2 3:5 y 3 5:16");
        dueTokens("the longest is third, chain 64", 64, text, "a b c d e 1 3:6 x 2 3:5 y 3 5:16");
        // Places inside of matches are places too, and other bytes in between are none.
        text = Packs.bytesOf("abcd1abce2abce3fghijklmnopabcd");
        dueTokens("places in matches, chain 2", 2, text, "a b c d 1 3:5 e 2 4:5 3 f g h i j k l m n o p 3:16 d");
        dueTokens("places in matches, chain 3", 3, text, "a b c d 1 3:5 e 2 4:5 3 f g h i j k l m n o p 4:26");

        s.of("Promise 1: A new object", "and CHAIN (1 .. 64);");
        int[][] asked = {{Integer.MIN_VALUE, 1, 2}, {-1, 1, 2}, {0, 1, 2}, {1, 1, 2}, {2, 2, 1}, {63, 63, 64}, {64, 64, 63}, {65, 64, 65},
            {66, 64, 66}, {Integer.MAX_VALUE, 64, 65}};
        for (int[] row : asked) {
            dueChain(row[0], row[1], row[2]);
        }
    }

    /** The farther back, the longer the match: the text tells one CHAIN from another. */
    private void dueChain(int asked, int given, int other) {
        StringBuilder text = new StringBuilder();
        for (int i = 70; i > 0; i--) {
            for (int j = 0; j < i + 2; j++) {
                text.append((char) ('!' + j));
            }
            text.append((char) (i + 128));
        }
        for (int j = 0; j < 75; j++) {
            text.append((char) ('!' + j));
        }
        int[] bytes = Packs.bytesOf(text.toString());
        FlatBlocks x = new FlatBlocks(bytes.length, 80_000, asked);
        Texts.feed(x, bytes);
        PlainPacker plain = Packs.due(s, "chain " + asked, x, bytes, given);
        boolean alike = Arrays.equals(plain.bytes, new PlainPacker(bytes, other).bytes);
        s.due("the text tells chain " + given + " from " + other, alike, false);
    }

    private void farthest() {
        s.of(TERMS, "at most 32,768 before,");
        int[] three = Packs.bytesOf("abc");
        for (int distance : new int[] {32_766, 32_767, 32_768, 32_769, 32_770, 40_000, 65_535, 65_536, 65_537}) {
            int[] text = Packs.joined(three, Packs.like('z', distance - 3), three);
            PlainPacker plain = Packs.due(s, "distance " + distance, text, 64);
            String last = tokensOf(plain, plain.tokens.size() - (distance <= 32_768 ? 1 : 3));
            dueWords("distance " + distance, last, distance <= 32_768 ? "3:" + distance : "a b c");
        }
        // A longer match lies too far back; a shorter one, just near enough.
        int[] near = Packs.joined(Packs.bytesOf("abcdx"), Packs.bytesOf("abcy"), Packs.like('z', 32_764), Packs.bytesOf("abcd"));
        PlainPacker plain = Packs.due(s, "the longer one is too far", near, 64);
        dueWords("the longer one is too far", tokensOf(plain, plain.tokens.size() - 2), "3:32768 d");
    }

    private void longest() {
        s.of(TERMS, "that with the longest match (up to 258, and to the end),");
        for (int like : new int[] {3, 4, 10, 11, 257, 258}) {
            dueTokens(like + " like bytes behind one", 64, Packs.like('y', 1 + like), "y " + like + ":1");
        }
        dueTokens("259 like bytes behind one", 64, Packs.like('y', 260), "y 258:1 y");
        dueTokens("260 like bytes behind one", 64, Packs.like('y', 261), "y 258:1 y y");
        dueTokens("261 like bytes behind one", 64, Packs.like('y', 262), "y 258:1 3:1");
        dueTokens("516 like bytes behind one", 64, Packs.like('y', 517), "y 258:1 258:1");
        dueTokens("519 like bytes behind one", 64, Packs.like('y', 520), "y 258:1 258:1 3:1");
        dueTokens("abcdefabcd", "a b c d e f 4:6");
        dueTokens("abcdefabcdef", "a b c d e f 6:6");
        dueTokens("abcd1abc2abcd", "a b c d 1 3:5 2 4:9");
        dueTokens("abc1abcd2abcd", "a b c 1 3:4 d 2 4:5");

        s.of(TERMS, "of these the latest:");
        dueTokens("abc1abc2abc", "a b c 1 3:4 2 3:4");
        dueTokens("abcd1abcd2abc3abcd", "a b c d 1 4:5 2 3:5 3 4:9");
        // Only the end makes them alike.
        dueTokens("abcdef1abcd2abcd", "a b c d e f 1 4:7 2 4:5");
        // Only the limit of 258 does: 300 bytes come three times, the second time without the last one.
        int[] text = Packs.joined(START, Packs.bytesOf("1"), Arrays.copyOf(START, 299), Packs.bytesOf("2"), START);
        PlainPacker plain = Packs.due(s, "longer than 258", text, 64);
        dueWords("longer than 258", tokensOf(plain, 300), "1 258:301 41:301 2 258:300 42:601");

        s.of(TERMS, "it is taken; else a byte.");
        dueTokens("abc1bcdef2abcdef", "a b c 1 b c d e f 2 3:10 3:7");
        dueTokens("abc1bc2abc", "a b c 1 b c 2 3:7");
    }

    /** Each LENGTH, and each DISTANCE at its edges, as it is written. */
    private void lengthsAndDistances() {
        s.of(TERMS, "of 28 it is 258.");
        for (int length = 3; length <= 258; length++) {
            int[] text = Packs.joined(START, Packs.bytesOf("1"), Arrays.copyOf(START, length), Packs.bytesOf("2"));
            PlainPacker plain = Packs.due(s, "length " + length, text, 4);
            dueWords("length " + length, tokensOf(plain, 300), "1 " + length + ":301 2");
            s.due("length " + length + " is symbol 285", plain.symbolLengths[285] > 0, length == 258);
            s.due("length " + length + ": symbols", plain.symbolsTold, 257 + PlainPacker.lengthRow(length)[0] + 1);
        }

        s.of(TERMS, "and distance symbols (one at least) up to the last ones that come;");
        s.due("without a match: distance symbols", Packs.due(s, "without a match", START, 4).distancesTold, 1);
        int[] apart = {5, 6, 7, 8, 9, 12, 13, 16, 17, 24, 25, 32, 33, 48, 49, 64, 65, 96, 97, 128, 129, 192, 193, 256, 257, 384, 385,
            512, 513, 768, 769, 1024, 1025, 1536, 1537, 2048, 2049, 3072, 3073, 4096, 4097, 6144, 6145, 8192, 8193, 12_288, 12_289,
            16_384, 16_385, 24_576, 24_577, 32_768};
        for (int i = 0; i < apart.length; i++) {
            int[] text = Packs.joined(FRONT, Packs.bytesOf("abc"), Packs.like('y', apart[i] - 3), Packs.bytesOf("abc"));
            PlainPacker plain = Packs.due(s, "distance " + apart[i], text, 64);
            // From 5 on, each symbol has a pair of edges here; 24,577 and 32,768 are those of the last one.
            s.due("distance " + apart[i] + ": distance symbols", plain.distancesTold, 5 + i / 2);
        }
        String[] close = {"yyyy", "ababa", "abcabc", "abcdabc"};
        for (int d = 0; d < 4; d++) {
            PlainPacker plain = Packs.due(s, close[d], Packs.joined(FRONT, Packs.bytesOf(close[d])), 64);
            s.due(close[d] + ": distance symbols", plain.distancesTold, d + 1);
        }
    }

    private void dueLengths(String name, int[] lengths, int... pairs) {
        int[] due = FormBounds.lengthsOf(lengths.length, pairs);
        s.due(name + ": lengths " + Arrays.toString(Arrays.stream(lengths).filter(length -> length > 0).toArray()),
            Arrays.equals(lengths, due), true);
    }

    private void lengths() {
        s.of(TERMS, "LENGTHS for symbols with how often they come (256 once; none: no length):");
        PlainPacker plain = Packs.due(s, "one byte, four matches", FRONT, 1);
        dueLengths("one byte, four matches", plain.symbolLengths, 'z', 2, 256, 2, 285, 1);
        plain = Packs.due(s, "two bytes, four matches", Packs.joined(FRONT, new int[] {'a'}), 1);
        dueLengths("two bytes, four matches", plain.symbolLengths, 'a', 3, 'z', 3, 256, 2, 285, 1);
        // 256 comes once, so that it and the byte that comes once have the longest codes, not the one that comes twice.
        plain = Packs.due(s, "a twice", Packs.joined(FRONT, Packs.bytesOf("aa")), 1);
        dueLengths("a twice", plain.symbolLengths, 'a', 2, 'z', 3, 256, 3, 285, 1);

        s.of(TERMS, "if there is one alone: 1.");
        dueLengths("one distance", plain.distanceLengths, 0, 1);
        plain = Packs.due(s, "one distance that is not the first", Packs.repeated(Packs.bytesOf("abcdefgh"), 8, 200), 1);
        dueLengths("one distance that is not the first", plain.distanceLengths, 5, 1);
        plain = Packs.due(s, "no distance", START, 1);
        dueLengths("no distance", plain.distanceLengths);
        // 256 alone: one block for an empty text is longer than a kept one.
        dueLengths("256 alone", Packs.due(s, "256 alone", new int[0], 1).symbolLengths, 256, 1);
    }

    private void twoRarest() {
        s.of(TERMS, "Else the two rarest are put together, again and again");
        PlainPacker plain = Packs.due(s, "two distances", Packs.joined(FRONT, Packs.bytesOf("ababa")), 1);
        dueLengths("two distances", plain.distanceLengths, 0, 1, 1, 1);
        plain = Packs.due(s, "three distances, 4, 1, 1", Packs.joined(FRONT, Packs.bytesOf("ababacdecde")), 1);
        dueLengths("three distances, 4, 1, 1", plain.distanceLengths, 0, 1, 1, 2, 2, 2);

        s.of(TERMS, "(of like ones: single ones, lesser symbols first, then those put together earlier); lengths are depths.");
        // z and 256 make 2; a comes twice, and 285 twice: these two single ones come before what was put together.
        int[] text = Packs.joined(Packs.like('z', 1 + 2 * 258), Packs.bytesOf("aa"));
        plain = Packs.due(s, "single ones first", text, 1);
        dueLengths("single ones first", plain.symbolLengths, 'z', 2, 256, 2, 'a', 2, 285, 2);
        // z, 256 and 284 come once: the two lesser ones are put together.
        plain = Packs.due(s, "lesser symbols first", Packs.like('z', 1 + 257), 1);
        dueLengths("lesser symbols first", plain.symbolLengths, 'z', 2, 256, 2, 284, 1);
        // Six that come once: three pairs, of which the two earlier ones are put together.
        plain = Packs.due(s, "earlier ones first", Packs.repeated(Packs.bytesOf("abcd"), 4, 60), 1);
        dueLengths("earlier ones first", plain.symbolLengths, 'a', 3, 'b', 3, 'c', 3, 'd', 3, 256, 2, 284, 2);
    }

    private void tooDeep() {
        s.of(TERMS, "If some is above 15 (7 for lengths), all counts become (count + 1) / 2, cut off, and it begins anew.");
        boolean[] seen = new boolean[20];
        for (int rare = 7; rare <= 14; rare++) {
            PlainPacker plain = Packs.due(s, rare + " rare bytes", Packs.withoutMatches(steepCounts(rare)), 3);
            seen[plain.symbolDepth] = true;
            s.due(rare + " rare bytes are in one block", plain.toldSize < plain.keptSize, true);
            s.due(rare + " rare bytes: greatest length within 15", Arrays.stream(plain.symbolLengths).max().orElse(0) <= 15, true);
        }
        for (int depth = 14; depth <= 17; depth++) {
            s.due("a depth of symbols of " + depth, seen[depth], true);
        }
        for (int distances = 15; distances <= 17; distances++) {
            PlainPacker plain = Packs.due(s, distances + " distances", Packs.withDistances(fibonacci(distances)), 3);
            s.due(distances + " distances: depth", plain.distanceDepth, distances - 1);
            s.due(distances + " distances are in one block", plain.toldSize < plain.keptSize, true);
        }
        dueDepthsOfLengths();
    }

    /** 40 bytes that come often, behind rare ones that come 1, 2, 4, 7, 12 .. times. */
    private static int[] steepCounts(int rare) {
        int[] counts = new int[rare + 40];
        for (int b = 0; b < counts.length; b++) {
            counts[b] = b >= rare ? 600 : b < 2 ? b + 1 : counts[b - 1] + counts[b - 2] + 1;
        }
        return counts;
    }

    /** Counts of distance symbols that make depths as great as can be; the rarest ones are the farthest, and the first. */
    private static int[] fibonacci(int distances) {
        int[] counts = new int[distances];
        counts[0] = 1;
        counts[distances - 1] = 1;
        for (int d = distances - 2; d > 0; d--) {
            counts[d] = counts[d + 1] + (d == distances - 2 ? 1 : counts[d + 2]);
        }
        return counts;
    }

    private void dueDepthsOfLengths() {
        Random random = new Random(5);
        int[] seen = new int[20];
        for (int round = 0; round < 200; round++) {
            int kinds = 60 + random.nextInt(120);
            int[] text = new int[400 + random.nextInt(2000)];
            for (int i = 0; i < text.length; i++) {
                double low = random.nextDouble();
                text[i] = (int) (kinds * low * low * low * low);
            }
            PlainPacker plain = Packs.due(s, "unlike lengths, round " + round, text, 3);
            seen[plain.lengthDepth] += plain.toldSize <= plain.keptSize ? 1 : 0;
        }
        for (int depth = 6; depth <= 8; depth++) {
            s.due("a depth of lengths of " + depth, seen[depth] > 0, true);
        }
    }

    private void block() {
        s.of(TERMS, "One last block of kind 2;");
        FlatBlocks x = new FlatBlocks(70_000, 16_000, 64);
        x.feed('z');
        x.again(1, 69_999);
        x.pack();
        s.due("three bits of the largest text", x.packed(0) & 7, 1 + 2 * 2);
        Packs.due(s, "the largest text", x, Packs.like('z', 70_000), 64);

        s.of(TERMS, "symbols (257 at least)");
        s.due("without a match: symbols", Packs.due(s, "without a match", START, 4).symbolsTold, 257);
        int[] least = Packs.joined(START, Arrays.copyOf(START, 3));
        s.due("with the least match: symbols", Packs.due(s, "with the least match", least, 4).symbolsTold, 258);
        s.due("with the longest match: symbols", Packs.due(s, "with the longest match", FRONT, 4).symbolsTold, 286);
    }

    /** The symbols by which lengths are told, each with its number if it has one. */
    private static String cellsOf(PlainPacker plain, int from, int to) {
        List<int[]> cells = plain.cells.subList(from, Math.min(to, plain.cells.size()));
        return cells.stream()
            .map(cell -> cell[2] == 0 ? String.valueOf(cell[0]) : cell[0] + ":" + cell[1])
            .collect(Collectors.joining(" "));
    }

    private void dueCells(String name, int[] text, String due) {
        PlainPacker plain = Packs.due(s, name, text, 4);
        dueWords(name, cellsOf(plain, 0, due.split(" ").length), due);
        s.due(name + ": in one block", plain.toldSize < plain.keptSize, true);
    }

    private void rowOfLengths() {
        s.of(TERMS, "lengths of both in one row, from left: of 0s, if there are 11 or more, 18 for as many as it can,"
            + " else, if 3 or more, 17;");
        dueZeros(1, "0");
        dueZeros(2, "0 0");
        dueZeros(3, "17:0");
        dueZeros(4, "17:1");
        dueZeros(9, "17:6");
        dueZeros(10, "17:7");
        dueZeros(11, "18:0");
        dueZeros(12, "18:1");
        dueZeros(137, "18:126");
        dueZeros(138, "18:127");
        dueZeros(139, "18:127 0");
        dueZeros(140, "18:127 0 0");
        dueZeros(141, "18:127 17:0");
        dueZeros(148, "18:127 17:7");
        dueZeros(149, "18:127 18:0");
        dueZeros(254, "18:127 18:105");
        // From left: zeros in front, and those of distance symbols.
        dueCells("255 alone", Packs.like(255, 1 + 2 * 258), "18:127 18:106 2 2");
        int[] far = Packs.joined(Packs.bytesOf("abc"), Packs.like('z', 32_765), Packs.bytesOf("abc"));
        PlainPacker plain = Packs.due(s, "the last distance", far, 4);
        dueWords("the last distance", cellsOf(plain, plain.cells.size() - 3, plain.cells.size()), "1 18:17 1");

        s.of(TERMS, "of others a length, then 16 as long as 3 or more of the same follow, for as many as it can; else a length by itself;");
        dueLike(1, "4");
        dueLike(2, "4 4");
        dueLike(3, "4 4 4");
        dueLike(4, "4 16:0");
        dueLike(5, "4 16:1");
        dueLike(6, "4 16:2");
        dueLike(7, "4 16:3");
        dueLike(8, "4 16:3 4");
        dueLike(9, "4 16:3 4 4");
        dueLike(10, "4 16:3 16:0");
        dueLike(11, "4 16:3 16:1");
        dueLike(12, "4 16:3 16:2");
        dueLike(13, "4 16:3 16:3");
        dueLike(14, "4 16:3 16:3 4");
        dueOneRow();
    }

    /** Bytes 0 and n + 1, and two symbols above, have two bits each: n 0s stand between them. */
    private void dueZeros(int n, String cells) {
        dueCells(n + " 0s", Packs.repeated(new int[] {0, n + 1}, 2, 129), "2 " + cells + " 2");
    }

    /** Fourteen bytes, 256 and a match have four bits each: n bytes in a row, and others by themselves. */
    private void dueLike(int n, String cells) {
        int[] bytes = new int[14];
        for (int i = 0; i < 14; i++) {
            bytes[i] = i < n ? i : 100 + 2 * i;
        }
        dueCells(n + " like lengths", Packs.repeated(bytes, 14, 18), cells + (n < 14 ? " 18:" + (100 + n - 11) : " 18:127"));
    }

    /** A 16 that begins with symbols and ends with distance symbols. */
    private void dueOneRow() {
        Random random = new Random(3);
        int over = 0;
        for (int round = 0; round < 3000; round++) {
            int[] text = new int[200];
            for (int i = 0; i < text.length; i++) {
                text[i] = i > 3 && random.nextInt(8) > 0 ? text[i - 1 - random.nextInt(Math.min(i, 9))] : random.nextInt(6);
            }
            PlainPacker plain = new PlainPacker(text, 2);
            if (isOverBoth(plain) && plain.toldSize <= plain.keptSize) {
                over++;
                Packs.due(s, "a 16 over both, round " + round, text, 2);
            }
        }
        s.due("texts with a 16 over both", over > 0, true);
    }

    private static boolean isOverBoth(PlainPacker plain) {
        int place = 0;
        for (int[] cell : plain.cells) {
            int times = cell[0] < 16 ? 1 : cell[1] + (cell[0] == 18 ? 11 : 3);
            if (cell[0] == 16 && place < plain.symbolsTold && place + times > plain.symbolsTold) {
                return true;
            }
            place += times;
        }
        return false;
    }

    private void lengthsOfLengths() {
        s.of(TERMS, "lengths of lengths in the order, up to the last one that is not 0 (four at least).");
        // One length for 2^n symbols, and no other: the order has 7 as the sixth, 6 as the eighth, 5, 4, 3 and 2.
        int[][] rows = {{127, 6}, {63, 8}, {31, 10}, {15, 12}, {7, 14}};
        for (int[] row : rows) {
            PlainPacker plain = Packs.due(s, row[0] + " bytes", Packs.withoutMatches(Packs.like(20, row[0])), 4);
            s.due(row[0] + " bytes: lengths of lengths", plain.lengthsTold, row[1]);
            s.due(row[0] + " bytes: in one block", plain.toldSize < plain.keptSize, true);
        }
        s.due("with a length of 1", Packs.due(s, "with a length of 1", FRONT, 4).lengthsTold, 18);
        PlainPacker plain = Packs.due(s, "with a length of 15", Packs.withDistances(fibonacci(16)), 4);
        s.due("with a length of 15", plain.lengthsTold, 19);
    }

    private void shorter() {
        s.of(TERMS, "Or, if that is shorter in bytes, kept blocks");
        Random random = new Random(6);
        int[] seen = new int[3];
        for (int round = 0; round < 400; round++) {
            int[] text = random.ints(50 + random.nextInt(150), 0, 60).toArray();
            PlainPacker plain = Packs.due(s, "sizes nearly alike, round " + round, text, 4);
            int more = plain.toldSize - plain.keptSize;
            if (more >= -1 && more <= 1) {
                seen[1 + more]++;
                s.due("kept if one block has " + more + " bytes more", plain.bytes[0] == 1, more == 1);
            }
        }
        for (int more = -1; more <= 1; more++) {
            s.due("one block had " + more + " bytes more", seen[1 + more] > 0, true);
        }
        // Matches that are not written are none of what was packed.
        FlatBlocks x = new FlatBlocks(100, 100, 4);
        Texts.feed(x, Packs.bytesOf("abcabcabc"));
        s.due("pack()", x.pack(), 14);
        s.due("count(4)", x.count(4), 0);
    }

    private void keptBlocks() {
        s.of(TERMS, "of 65,535 bytes, the last one with what is left");
        // So many unlike bytes need more than the 512 calls that the document speaks of.
        for (int size : new int[] {1, 255, 256, 65_534, 65_535, 65_536, 65_537, 70_000}) {
            int[] text = new Random(size).ints(size, 0, 256).toArray();
            FlatBlocks x = new FlatBlocks(70_000, 80_000, 2);
            Texts.feed(x, text);
            int first = Math.min(65_535, size);
            s.due(size + " bytes: pack()", x.pack(), size + (size > 65_535 ? 10 : 5));
            s.due(size + " bytes: count(4)", x.count(4), 0);
            dueKeptHead(size + " bytes", x, 0, first, size == first);
            if (size > first) {
                dueKeptHead(size + " bytes, second block", x, 5 + first, size - first, true);
            }
            boolean alike = true;
            for (int i = 0; i < size; i++) {
                alike &= x.packed(i + (i < 65_535 ? 5 : 10)) == text[i];
            }
            s.due(size + " bytes: each stands there", alike, true);
            x.take();
            s.due(size + " bytes: unpack()", x.unpack(), 0);
            s.due(size + " bytes: same()", x.same(), true);
            s.due(size + " bytes: bit()", x.bit(), 8 * x.count(1));
        }

        s.of(TERMS, "(one, of none, for an empty text).");
        FlatBlocks x = new FlatBlocks(1, 16, 1);
        s.due("pack()", x.pack(), 5);
        dueKeptHead("no bytes", x, 0, 0, true);
        s.due("packed(5)", x.packed(5), FlatBlocks.BAD);
        s.due("take()", x.take(), 5);
        s.due("unpack()", x.unpack(), 0);
        s.due("bit()", x.bit(), 40);
        s.due("same()", x.same(), true);
        x.reset();
        s.due("pack() after reset()", x.pack(), 5);
    }

    private void dueKeptHead(String name, FlatBlocks x, int from, int length, boolean last) {
        s.due(name + ": last", x.packed(from), last ? 1 : 0);
        s.due(name + ": L, low", x.packed(from + 1), length % 256);
        s.due(name + ": L, high", x.packed(from + 2), length / 256);
        s.due(name + ": turned, low", x.packed(from + 3), 255 - length % 256);
        s.due(name + ": turned, high", x.packed(from + 4), 255 - length / 256);
    }

    private void bitsUpToAWholeByte() {
        s.of(TERMS, "Bits up to a whole byte are 0.");
        boolean[] seen = new boolean[8];
        for (int more = 0; more < 40; more++) {
            FlatBlocks x = new FlatBlocks(2000, 100, 4);
            Packs.feedRuns(x, Packs.joined(FRONT, Arrays.copyOf(START, more)));
            int size = x.pack();
            x.take();
            x.unpack();
            int used = x.bit() - 8 * (size - 1);
            seen[used % 8] = true;
            s.due(more + " bytes more: bits of the last byte", used >= 1 && used <= 8, true);
            s.due(more + " bytes more: the others", x.packed(size - 1) >> used, 0);
        }
        for (int used = 0; used < 8; used++) {
            s.due("bits of the last byte that are used: " + used, seen[used], true);
        }
        FlatBlocks x = new FlatBlocks(20, 100, 4);
        Texts.feed(x, Packs.bytesOf("ab"));
        x.pack();
        s.due("kept: bits behind the first three", x.packed(0) >> 3, 0);
    }

    private void pack() {
        s.of("Promise 4: pack", "The text is packed: how many bytes;");
        FlatBlocks x = new FlatBlocks(1, 16, 1);
        s.due("pack() of no bytes", x.pack(), 5);
        x.feed(0);
        s.due("pack() of one byte", x.pack(), 6);
        s.due("pack() once more", x.pack(), 6);
        s.due("count(1)", x.count(1), 6);
        s.due("packed(5)", x.packed(5), 0);
        // The text stays, and what comes to it later is packed with it.
        x = new FlatBlocks(5000, 6000, 64);
        int[] text = Packs.bytesOf("abcabcabdabcabcabe");
        Texts.feed(x, text);
        Packs.due(s, "a text", x, text, 64);
        x.again(18, 20);
        Packs.due(s, "a longer text", x, Packs.repeated(text, 18, 20), 64);
        s.due("count(4)", x.count(4) > 0, true);
        // Fewer bytes than before: nothing of the former ones is left.
        x.reset();
        x.feed(7);
        s.due("pack() of a shorter text", x.pack(), 6);
        s.due("packed(6)", x.packed(6), FlatBlocks.BAD);
        s.due("count(4) of a shorter text", x.count(4), 0);
    }

    private void noRoom() {
        s.of("Promise 4: pack", "FULL - 100 (that is - 93): no room: what was packed stays.");
        s.due("FULL - 100", FlatBlocks.FULL - 100, -93);
        // Eleven unlike bytes are kept in 16, the least room.
        FlatBlocks x = new FlatBlocks(100, 16, 4);
        Texts.feed(x, Packs.bytesOf("abcdefghijk"));
        s.due("just room for kept bytes", x.pack(), 16);
        x.feed('l');
        s.due("one byte too many", x.pack(), -93);
        s.due("one byte too many, once more", x.pack(), -93);
        s.due("count(1)", x.count(1), 16);
        s.due("packed(1)", x.packed(1), 11);
        s.due("packed(15)", x.packed(15), 'k');
        s.due("count(0)", x.count(0), 12);
        x.again(12, 5);
        s.due("much too many", x.pack(), -93);
        s.due("take()", x.take(), 16);
        s.due("unpack()", x.unpack(), 0);
        s.due("count(3)", x.count(3), 11);
        s.due("same()", x.same(), false);

        int[] text = Packs.joined(FRONT, Packs.bytesOf("abcdefghijklmnopqrstuvwxy"));
        int size = new PlainPacker(text, 4).bytes.length;
        x = new FlatBlocks(2000, size, 4);
        Packs.feedRuns(x, text);
        s.due("just room for a block", x.pack(), size);
        x = new FlatBlocks(2000, size - 1, 4);
        Packs.feedRuns(x, text);
        s.due("no room for a block, nothing was packed", x.pack(), -93);
        s.due("count(1), nothing was packed", x.count(1), 0);
        s.due("count(4), nothing was packed", x.count(4), 0);
        s.due("packed(0), nothing was packed", x.packed(0), FlatBlocks.BAD);
        s.due("take(), nothing was packed", x.take(), 0);

        dueBlockStays(size);
        for (int room = 70_009; room <= 70_010; room++) {
            FlatBlocks large = new FlatBlocks(70_000, room, 1);
            Texts.feed(large, new Random(7).ints(70_000, 0, 256).toArray());
            s.due("70,000 unlike bytes in " + room, large.pack(), room == 70_010 ? 70_010 : -93);
            s.due("70,000 unlike bytes in " + room + ": count(1)", large.count(1), room == 70_010 ? 70_010 : 0);
        }
    }

    private void dueBlockStays(int room) {
        FlatBlocks x = new FlatBlocks(2000, room, 4);
        Packs.feedRuns(x, FRONT);
        int size = x.pack();
        int[] before = Texts.packedOf(x);
        s.due("count(4) before", x.count(4), 4);
        Texts.feed(x, Packs.bytesOf("abcdefghijklmnopqrstuvwxyABCDEFGHIJKLMNOPQRSTUVWXYabcdeABCDE"));
        s.due("a block for which there is no room", x.pack(), -93);
        s.due("count(1) stays", x.count(1), size);
        s.due("count(4) stays", x.count(4), 4);
        s.due("the bytes stay", Arrays.equals(Texts.packedOf(x), before), true);
        s.due("take()", x.take(), size);
        s.due("unpack()", x.unpack(), 0);
        s.due("count(3)", x.count(3), FRONT.length);
        x.reset();
        Packs.feedRuns(x, FRONT);
        s.due("pack() after reset()", x.pack(), size);
    }
}
