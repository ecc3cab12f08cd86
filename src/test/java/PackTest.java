import java.util.Arrays;
import java.util.HashSet;
import java.util.Random;
import java.util.Set;
import java.util.zip.DataFormatException;
import java.util.zip.Inflater;

/** Promises 4 and 5: pack, packed, with the matches of promise 13 and the way back of 7, 8 and 11. */
public final class PackTest {
    private static final Checks CHECKS = new Checks();

    public static void main(String[] args) {
        smallTexts();
        textsOfFewBytes();
        lengthsOfMatches();
        distancesOfMatches();
        placesTried();
        longTexts();
        unlikeCounts();
        unlikeLengths();
        sizesAlike();
        noRoom();
        packedAfterMoreBytes();
        keptAfterMatches();
        CHECKS.end();
    }

    /** All that is due of a text that has been fed, by the plain packer and by the library's unpacker. */
    private static PlainPacker due(String name, FlatBlocks x, int[] text, int chain) {
        PlainPacker plain = new PlainPacker(text, chain);
        CHECKS.due(name + ": count(0)", x.count(0), text.length);
        CHECKS.due(name + ": pack()", x.pack(), plain.bytes.length);
        CHECKS.due(name + ": count(1)", x.count(1), plain.bytes.length);
        CHECKS.due(name + ": count(4)", x.count(4), plain.matches);
        for (int i = 0; i < plain.bytes.length; i++) {
            CHECKS.due(name + ": packed(" + i + ")", x.packed(i), plain.bytes[i]);
        }
        CHECKS.due(name + ": packed behind the end", x.packed(plain.bytes.length), FlatBlocks.BAD);
        CHECKS.due(name + ": packed(-1)", x.packed(-1), FlatBlocks.BAD);
        CHECKS.due(name + ": the library unpacks it", isUnpackedByLibrary(Texts.packedOf(x), text), true);
        CHECKS.due(name + ": take()", x.take(), plain.bytes.length);
        CHECKS.due(name + ": unpack()", x.unpack(), 0);
        CHECKS.due(name + ": bit() in whole bytes", (x.bit() + 7) / 8, plain.bytes.length);
        CHECKS.due(name + ": same()", x.same(), true);
        return plain;
    }

    private static PlainPacker dueOf(String name, int[] text, int chain) {
        FlatBlocks x = new FlatBlocks(text.length, 80_000, chain);
        Texts.feed(x, text);
        return due(name, x, text, chain);
    }

    private static boolean isUnpackedByLibrary(int[] packed, int[] text) {
        byte[] in = new byte[packed.length];
        for (int i = 0; i < in.length; i++) {
            in[i] = (byte) packed[i];
        }
        byte[] out = new byte[text.length + 1];
        Inflater inflater = new Inflater(true);
        inflater.setInput(in);
        try {
            int size = inflater.inflate(out);
            boolean good = inflater.finished() && size == text.length;
            for (int i = 0; good && i < size; i++) {
                good = (out[i] & 255) == text[i];
            }
            return good;
        } catch (DataFormatException e) {
            return false;
        } finally {
            inflater.end();
        }
    }

    private static int[] bytesOf(String text) {
        return text.chars().toArray();
    }

    /** The last bytes come so often again, as again() does it. */
    private static int[] repeated(int[] text, int bytes, int times) {
        int[] all = Arrays.copyOf(text, text.length + bytes * times);
        for (int i = text.length; i < all.length; i++) {
            all[i] = all[i - bytes];
        }
        return all;
    }

    private static void smallTexts() {
        FlatBlocks x = new FlatBlocks(5, 16, 1);
        due("empty", x, new int[0], 1);
        CHECKS.due("empty: packed(0)", x.packed(0), 1);
        dueOf("one byte", new int[] {255}, 1);
        dueOf("two bytes", new int[] {1, 1}, 1);
        dueOf("three bytes", new int[] {1, 1, 1}, 1);
        dueOf("four like bytes", new int[] {1, 1, 1, 1}, 1);
        dueOf("words", bytesOf("the cat that sat on the mat that the cat had; the cat that sat on the mat that the cat had"), 4);
    }

    private static void textsOfFewBytes() {
        Random random = new Random(1);
        for (int round = 0; round < 300; round++) {
            int kinds = 1 + random.nextInt(round % 10 == 0 ? 256 : 12);
            int[] text = new int[1 + random.nextInt(500)];
            for (int i = 0; i < text.length; i++) {
                boolean copy = i > 3 && random.nextInt(3) == 0;
                text[i] = copy ? text[random.nextInt(i)] : (int) (kinds * random.nextDouble() * random.nextDouble());
            }
            dueOf("few bytes, round " + round, text, 1 + random.nextInt(64));
        }
    }

    private static void lengthsOfMatches() {
        for (int length = 2; length <= 262; length++) {
            int[] text = repeated(new int[] {7}, 1, length);
            dueOf("length " + length, text, 5);
        }
    }

    private static void distancesOfMatches() {
        int[] apart = {3, 4, 5, 6, 7, 8, 9, 12, 13, 16, 17, 24, 25, 32, 33, 48, 49, 64, 65, 96, 97, 128, 129, 192, 193, 256, 257,
            384, 385, 512, 513, 768, 769, 1024, 1025, 1536, 1537, 2048, 2049, 3072, 3073, 4096, 4097, 6144, 6145, 8192, 8193,
            12288, 12289, 16384, 16385, 24576, 24577, 32767, 32768, 32769, 40000};
        for (int distance : apart) {
            FlatBlocks x = new FlatBlocks(70_000, 80_000, 64);
            int[] text = {1, 2, 3};
            if (distance > 3) {
                text = repeated(new int[] {1, 2, 3, 0}, 1, distance - 4);
            }
            int[] all = Arrays.copyOf(text, text.length + 3);
            System.arraycopy(new int[] {1, 2, 3}, 0, all, text.length, 3);
            Texts.feed(x, Arrays.copyOf(text, Math.min(4, text.length)));
            if (distance > 4) {
                x.again(1, distance - 4);
            }
            Texts.feed(x, new int[] {1, 2, 3});
            due("distance " + distance, x, all, 64);
        }
    }

    /** A longer match lies farther back than CHAIN places; like ones: the latest is taken. */
    private static void placesTried() {
        StringBuilder text = new StringBuilder("abcdefgh");
        for (int i = 0; i < 70; i++) {
            text.append("abc").append((char) (i + 128));
        }
        text.append("abcdefgh").append("xyzq1xyzq2xyzq");
        for (int chain = 1; chain <= 64; chain++) {
            dueOf("chain " + chain, bytesOf(text.toString()), chain);
        }
        String near = "abcdefgh1abcx2abcy3abcz4abcdefgh";
        for (int chain = 1; chain <= 5; chain++) {
            dueOf("near, chain " + chain, bytesOf(near + near + near), chain);
        }
        dueChain(Integer.MIN_VALUE, 1, 2);
        dueChain(0, 1, 2);
        dueChain(1, 1, 2);
        dueChain(2, 2, 1);
        dueChain(63, 63, 64);
        dueChain(64, 64, 63);
        dueChain(65, 64, 65);
        dueChain(Integer.MAX_VALUE, 64, 65);
    }

    /** The text tells one chain from another: the farther back, the longer the match. */
    private static void dueChain(int asked, int given, int other) {
        StringBuilder text = new StringBuilder();
        for (int i = 70; i > 0; i--) {
            for (int j = 0; j < i + 2; j++) {
                text.append((char) ('!' + j));
            }
            text.append((char) (i + 128));
        }
        for (int j = 0; j < 75; j++) {
            text.append((char) ('!' + j));
        }
        int[] bytes = bytesOf(text.toString());
        FlatBlocks x = new FlatBlocks(bytes.length, 80_000, asked);
        Texts.feed(x, bytes);
        PlainPacker plain = due("chain " + asked + " brought within", x, bytes, given);
        boolean alike = Arrays.equals(plain.bytes, new PlainPacker(bytes, other).bytes);
        CHECKS.due("the text tells chain " + given + " from " + other, alike, false);
    }

    private static void longTexts() {
        FlatBlocks x = new FlatBlocks(70_000, 80_000, 64);
        x.feed(65);
        x.again(1, 69_999);
        due("70,000 like bytes", x, repeated(new int[] {65}, 1, 69_999), 64);

        Random random = new Random(2);
        for (int size : new int[] {65_535, 65_536}) {
            int[] text = random.ints(size, 0, 256).toArray();
            PlainPacker plain = dueOf(size + " bytes of chance", text, 2);
            CHECKS.due(size + " bytes of chance are kept", plain.bytes.length, size + (size > 65_535 ? 10 : 5));
        }
        for (int bytes : new int[] {2, 3, 100, 257, 258}) {
            int[] start = random.ints(bytes, 0, 256).toArray();
            int times = 20_000 / bytes;
            FlatBlocks y = new FlatBlocks(70_000, 80_000, 8);
            Texts.feed(y, start);
            y.again(bytes, times);
            due(bytes + " bytes again and again", y, repeated(start, bytes, times), 8);
        }
    }

    /** Counts that rise fast make codes of symbols that are too long at first. */
    private static void unlikeCounts() {
        boolean halved = dueOf("bytes that never match", withoutMatches(), 64).symbolsHalved;
        CHECKS.due("codes of symbols were too long at first", halved, true);
    }

    /** 40 bytes that come often, 13 that come 1, 2, 4, 7, 12 .. times, in an order without a match. */
    private static int[] withoutMatches() {
        int[] left = new int[53];
        int all = 0;
        for (int b = 0; b < left.length; b++) {
            left[b] = b >= 13 ? 600 : b < 2 ? b + 1 : left[b - 1] + left[b - 2] + 1;
            all += left[b];
        }
        int[] text = new int[all];
        Set<Integer> threes = new HashSet<>();
        Random random = new Random(4);
        int size = 0;
        for (int tries = 0; tries < 1_000_000 && size < all; tries++) {
            int b = pick(left, random.nextInt(all - size));
            if (size < 2 || threes.add(text[size - 2] << 16 | text[size - 1] << 8 | b)) {
                text[size++] = b;
                left[b]--;
            }
        }
        return Arrays.copyOf(text, size);
    }

    private static int pick(int[] left, int rank) {
        int b = 0;
        int before = left[0];
        while (before <= rank) {
            b++;
            before += left[b];
        }
        return b;
    }

    /** Lengths that come very unlike often make codes of lengths that are too long at first. */
    private static void unlikeLengths() {
        Random random = new Random(5);
        int above = 0;
        for (int round = 0; round < 200; round++) {
            int kinds = 60 + random.nextInt(120);
            int[] text = new int[400 + random.nextInt(2000)];
            for (int i = 0; i < text.length; i++) {
                double low = random.nextDouble();
                text[i] = (int) (kinds * low * low * low * low);
            }
            above += dueOf("unlike lengths, round " + round, text, 3).lengthsHalved ? 1 : 0;
        }
        CHECKS.due("some codes of lengths were too long at first", above > 0, true);
    }

    /** Kept blocks are written only if they are shorter, not if both are as long. */
    private static void sizesAlike() {
        Random random = new Random(6);
        int alike = 0;
        int nearby = 0;
        for (int round = 0; round < 400; round++) {
            int[] text = random.ints(50 + random.nextInt(150), 0, 60).toArray();
            PlainPacker plain = dueOf("sizes alike, round " + round, text, 4);
            alike += plain.toldSize == plain.keptSize ? 1 : 0;
            nearby += plain.toldSize == plain.keptSize + 1 ? 1 : 0;
        }
        CHECKS.due("sizes were alike", alike > 0, true);
        CHECKS.due("one was shorter by one", nearby > 0, true);
    }

    private static void noRoom() {
        FlatBlocks x = new FlatBlocks(1000, 30, 4);
        Texts.feed(x, bytesOf("abcd"));
        x.again(4, 100);
        int size = x.pack();
        int[] before = Texts.packedOf(x);
        int matches = x.count(4);
        Texts.feed(x, bytesOf("efghijklmnopqrstuvwxyzABCDEFGHIJKLMNOPQRSTUVWXYZ"));
        CHECKS.due("no room: pack()", x.pack(), FlatBlocks.FULL - 100);
        CHECKS.due("no room: pack() is -93", x.pack(), -93);
        CHECKS.due("no room: count(1)", x.count(1), size);
        CHECKS.due("no room: count(4)", x.count(4), matches);
        for (int i = 0; i < size; i++) {
            CHECKS.due("no room: packed(" + i + ")", x.packed(i), before[i]);
        }
        CHECKS.due("no room: take()", x.take(), size);
        CHECKS.due("no room: unpack()", x.unpack(), 0);
        CHECKS.due("no room: count(3)", x.count(3), 404);
        CHECKS.due("no room: same()", x.same(), false);

        FlatBlocks y = new FlatBlocks(100, 16, 4);
        Texts.feed(y, bytesOf("abcdefghijk"));
        CHECKS.due("just room", y.pack(), 16);
        y.feed('l');
        CHECKS.due("one too many", y.pack(), -93);
        CHECKS.due("one too many: count(1)", y.count(1), 16);
    }

    private static void packedAfterMoreBytes() {
        FlatBlocks x = new FlatBlocks(5000, 6000, 64);
        int[] text = bytesOf("abcabcabdabcabcabe");
        Texts.feed(x, text);
        due("first", x, text, 64);
        Texts.feed(x, bytesOf("abcabc"));
        text = bytesOf("abcabcabdabcabcabeabcabc");
        CHECKS.due("feed leaves what was packed", x.count(1), new PlainPacker(bytesOf("abcabcabdabcabcabe"), 64).bytes.length);
        due("more", x, text, 64);
        x.again(24, 150);
        due("again", x, repeated(text, 24, 150), 64);
        x.reset();
        text = bytesOf("the cabs are the cabs that are there, and the cabs that are there are the cabs");
        Texts.feed(x, text);
        x.again(40, 5);
        CHECKS.due("after reset: matches", due("after reset", x, repeated(text, 40, 5), 64).matches > 0, true);
    }

    private static void keptAfterMatches() {
        int[] text = repeated(bytesOf("abc"), 3, 8);
        FlatBlocks x = new FlatBlocks(5000, 6000, 64);
        Texts.feed(x, text);
        CHECKS.due("matches at first", due("matches", x, text, 64).matches, 1);
        int[] chance = new Random(9).ints(300, 0, 256).toArray();
        int[] all = Arrays.copyOf(text, text.length + chance.length);
        System.arraycopy(chance, 0, all, text.length, chance.length);
        Texts.feed(x, chance);
        CHECKS.due("then kept", due("kept", x, all, 64).bytes.length, all.length + 5);
    }
}
