import java.util.Arrays;
import java.util.HashSet;
import java.util.Random;
import java.util.Set;
import java.util.zip.DataFormatException;
import java.util.zip.Inflater;

/** Texts that are packed, with what is due of them by the plain packer and by the library's unpacker. */
final class Packs {
    private Packs() {
    }

    /** All that is due of a text that has been fed. */
    static PlainPacker due(Checks checks, String name, FlatBlocks x, int[] text, int chain) {
        PlainPacker plain = new PlainPacker(text, chain);
        checks.due(name + ": count(0)", x.count(0), text.length);
        checks.due(name + ": pack()", x.pack(), plain.bytes.length);
        checks.due(name + ": count(1)", x.count(1), plain.bytes.length);
        checks.due(name + ": count(4)", x.count(4), plain.matches);
        for (int i = 0; i < plain.bytes.length; i++) {
            checks.due(name + ": packed(" + i + ")", x.packed(i), plain.bytes[i]);
        }
        checks.due(name + ": packed behind the end", x.packed(plain.bytes.length), FlatBlocks.BAD);
        checks.due(name + ": packed(-1)", x.packed(-1), FlatBlocks.BAD);
        checks.due(name + ": the library unpacks it", isUnpackedByLibrary(plain.bytes, text), true);
        checks.due(name + ": take()", x.take(), plain.bytes.length);
        checks.due(name + ": unpack()", x.unpack(), 0);
        checks.due(name + ": bit() in whole bytes", (x.bit() + 7) / 8, plain.bytes.length);
        checks.due(name + ": same()", x.same(), true);
        return plain;
    }

    static PlainPacker due(Checks checks, String name, int[] text, int chain) {
        FlatBlocks x = new FlatBlocks(text.length, 80_000, chain);
        feedRuns(x, text);
        return due(checks, name, x, text, chain);
    }

    /** Few calls, where many like bytes follow one another. */
    static void feedRuns(FlatBlocks x, int[] text) {
        int place = 0;
        while (place < text.length) {
            int end = place + 1;
            while (end < text.length && text[end] == text[place]) {
                end++;
            }
            x.feed(text[place]);
            if (end - place > 1) {
                x.again(1, end - place - 1);
            }
            place = end;
        }
    }

    private static boolean isUnpackedByLibrary(int[] packed, int[] text) {
        byte[] in = new byte[packed.length];
        for (int i = 0; i < in.length; i++) {
            in[i] = (byte) packed[i];
        }
        byte[] out = new byte[text.length + 1];
        Inflater inflater = new Inflater(true);
        inflater.setInput(in);
        try {
            int size = inflater.inflate(out);
            boolean good = inflater.finished() && size == text.length;
            for (int i = 0; good && i < size; i++) {
                good = (out[i] & 255) == text[i];
            }
            return good;
        } catch (DataFormatException e) {
            return false;
        } finally {
            inflater.end();
        }
    }

    static int[] bytesOf(String text) {
        return text.chars().toArray();
    }

    static int[] joined(int[]... parts) {
        return Arrays.stream(parts).flatMapToInt(Arrays::stream).toArray();
    }

    static int[] like(int b, int times) {
        int[] text = new int[times];
        Arrays.fill(text, b);
        return text;
    }

    /** The last bytes come so often again, as again() does it. */
    static int[] repeated(int[] text, int bytes, int times) {
        int[] all = Arrays.copyOf(text, text.length + bytes * times);
        for (int i = text.length; i < all.length; i++) {
            all[i] = all[i - bytes];
        }
        return all;
    }

    /** Byte b comes counts[b] times, in an order in which no three bytes come twice: there is no match. */
    static int[] withoutMatches(int... counts) {
        for (int seed = 1; seed <= 100; seed++) {
            int[] text = tryWithoutMatches(counts, new Random(seed));
            if (text != null) {
                return text;
            }
        }
        throw new IllegalStateException("there is no such order");
    }

    private static int[] tryWithoutMatches(int[] counts, Random random) {
        int[] left = counts.clone();
        int[] text = new int[Arrays.stream(left).sum()];
        Set<Integer> threes = new HashSet<>();
        int size = 0;
        for (int tries = 0; tries < 100 * text.length && size < text.length; tries++) {
            int b = pick(left, random.nextInt(text.length - size));
            if (size < 2 || threes.add(text[size - 2] << 16 | text[size - 1] << 8 | b)) {
                text[size++] = b;
                left[b]--;
            }
        }
        return size == text.length ? text : null;
    }

    private static int pick(int[] left, int rank) {
        int b = 0;
        int before = left[0];
        while (before <= rank) {
            b++;
            before += left[b];
        }
        return b;
    }

    /**
     * A text with counts[d] matches of distance symbol d, each of three bytes and as near as it can
     * be for d: a part of new bytes, of which the first three come again behind it.
     */
    static int[] withDistances(int... counts) {
        Random random = new Random(11);
        Set<Integer> threes = new HashSet<>();
        int[] text = new int[70_000];
        int size = 0;
        for (int d = 0; d < counts.length; d++) {
            int distance = d < 4 ? 1 + d : 1 + (2 + d % 2 << d / 2 - 1);
            for (int i = 0; i < counts[d]; i++) {
                size = addPart(text, size, distance, threes, random);
            }
        }
        return Arrays.copyOf(text, size);
    }

    private static int addPart(int[] text, int size, int distance, Set<Integer> threes, Random random) {
        int match = size + distance;
        for (int tries = 0; tries < 10_000; tries++) {
            for (int i = size; i < match + 3; i++) {
                text[i] = i < match ? random.nextInt(256) : text[i - distance];
            }
            if (isNew(text, size, match, threes)) {
                for (int i = Math.max(0, size - 2); i <= match; i++) {
                    threes.add(threeAt(text, i));
                }
                return match + 3;
            }
        }
        throw new IllegalStateException("there is no such part");
    }

    /** No three bytes that begin before the match have come before, nor does the match before go on. */
    private static boolean isNew(int[] text, int size, int match, Set<Integer> threes) {
        Set<Integer> here = new HashSet<>();
        for (int i = Math.max(0, size - 2); i < match; i++) {
            int three = threeAt(text, i);
            if (threes.contains(three) || !here.add(three)) {
                return false;
            }
        }
        return true;
    }

    private static int threeAt(int[] text, int i) {
        return text[i] << 16 | text[i + 1] << 8 | text[i + 2];
    }
}
