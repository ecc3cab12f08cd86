import java.util.Arrays;
import java.util.Random;

/** Promises 4 and 5: pack, packed, on texts of many kinds, with the matches of promise 13 and the way back of 7, 8 and 11. */
public final class PackTest {
    private static final Checks CHECKS = new Checks();

    public static void main(String[] args) {
        smallTexts();
        textsOfFewBytes();
        placesTried();
        longTexts();
        packedAfterMoreBytes();
        keptAfterMatches();
        CHECKS.end();
    }

    private static void smallTexts() {
        Packs.due(CHECKS, "one byte", new int[] {255}, 1);
        Packs.due(CHECKS, "two bytes", new int[] {1, 1}, 1);
        String words = "the cat that sat on the mat that the cat had; ";
        Packs.due(CHECKS, "words", Packs.bytesOf(words + words), 4);
    }

    private static void textsOfFewBytes() {
        Random random = new Random(1);
        for (int round = 0; round < 300; round++) {
            int kinds = 1 + random.nextInt(round % 10 == 0 ? 256 : 12);
            int[] text = new int[1 + random.nextInt(500)];
            for (int i = 0; i < text.length; i++) {
                boolean copy = i > 3 && random.nextInt(3) == 0;
                text[i] = copy ? text[random.nextInt(i)] : (int) (kinds * random.nextDouble() * random.nextDouble());
            }
            Packs.due(CHECKS, "few bytes, round " + round, text, 1 + random.nextInt(64));
        }
    }

    /** A longer match lies farther back than CHAIN places; like ones: the latest is taken. */
    private static void placesTried() {
        StringBuilder text = new StringBuilder("abcdefgh");
        for (int i = 0; i < 70; i++) {
            text.append("abc").append((char) (i + 128));
        }
        text.append("abcdefgh").append("xyzq1xyzq2xyzq");
        for (int chain = 1; chain <= 64; chain++) {
            Packs.due(CHECKS, "chain " + chain, Packs.bytesOf(text.toString()), chain);
        }
        String near = "abcdefgh1abcx2abcy3abcz4abcdefgh";
        for (int chain = 1; chain <= 5; chain++) {
            Packs.due(CHECKS, "near, chain " + chain, Packs.bytesOf(near + near + near), chain);
        }
    }

    private static void longTexts() {
        Random random = new Random(2);
        for (int bytes : new int[] {2, 3, 100, 257, 258}) {
            int[] start = random.ints(bytes, 0, 256).toArray();
            int times = 20_000 / bytes;
            FlatBlocks x = new FlatBlocks(70_000, 80_000, 8);
            Texts.feed(x, start);
            x.again(bytes, times);
            Packs.due(CHECKS, bytes + " bytes again and again", x, Packs.repeated(start, bytes, times), 8);
        }
        int[] text = new int[50_000];
        for (int i = 0; i < text.length; i++) {
            boolean copy = i > 40 && random.nextInt(5) != 0;
            text[i] = copy ? text[Math.max(0, i - 1 - random.nextInt(1 + random.nextInt(40_000)))] : random.nextInt(100);
        }
        Packs.due(CHECKS, "parts from near and far", text, 5);
    }

    private static void packedAfterMoreBytes() {
        FlatBlocks x = new FlatBlocks(5000, 6000, 64);
        int[] first = Packs.bytesOf("abcabcabdabcabcabe");
        Texts.feed(x, first);
        int size = Packs.due(CHECKS, "first", x, first, 64).bytes.length;
        Texts.feed(x, Packs.bytesOf("abcabc"));
        CHECKS.due("feed leaves what was packed", x.count(1), size);
        int[] text = Packs.bytesOf("abcabcabdabcabcabeabcabc");
        Packs.due(CHECKS, "more", x, text, 64);
        x.again(24, 150);
        Packs.due(CHECKS, "again", x, Packs.repeated(text, 24, 150), 64);
        x.reset();
        text = Packs.bytesOf("the cabs are the cabs that are there, and the cabs that are there are the cabs");
        Texts.feed(x, text);
        x.again(40, 5);
        CHECKS.due("after reset: matches", Packs.due(CHECKS, "after reset", x, Packs.repeated(text, 40, 5), 64).matches > 0, true);
    }

    private static void keptAfterMatches() {
        int[] text = Packs.repeated(Packs.bytesOf("abc"), 3, 8);
        FlatBlocks x = new FlatBlocks(5000, 6000, 64);
        Texts.feed(x, text);
        CHECKS.due("matches at first", Packs.due(CHECKS, "matches", x, text, 64).matches, 1);
        int[] chance = new Random(9).ints(300, 0, 256).toArray();
        int[] all = Arrays.copyOf(text, text.length + chance.length);
        System.arraycopy(chance, 0, all, text.length, chance.length);
        Texts.feed(x, chance);
        CHECKS.due("then kept", Packs.due(CHECKS, "kept", x, all, 64).bytes.length, all.length + 5);
    }
}
