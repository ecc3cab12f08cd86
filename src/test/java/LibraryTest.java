import java.util.Arrays;
import java.util.Random;
import java.util.zip.DataFormatException;
import java.util.zip.Deflater;
import java.util.zip.Inflater;

/** Promise 8: streams of the published form that others wrote are unpacked, and spoilt ones are judged as others do. */
public final class LibraryTest {
    private static final Checks CHECKS = new Checks();
    private static final int GOOD = 0, ENDS = 1, WRONG = 2;
    private static final int ROOM = 70_000;

    private static byte[] unpackedByLibrary = new byte[0];
    private static int bytesRead;

    public static void main(String[] args) {
        Random random = new Random(7);
        FlatBlocks x = new FlatBlocks(ROOM, 80_000, 1);
        for (int round = 0; round < 400; round++) {
            byte[] text = textOf(random, round);
            byte[] stream = packedByLibrary(text, round % 10, round / 10 % 3);
            dueText("round " + round, x, stream, text);
            for (int spoilt = 0; spoilt < 20; spoilt++) {
                dueLikeLibrary("round " + round + ", spoilt " + spoilt, x, spoil(stream, random));
            }
        }
        for (int round = 0; round < 20_000; round++) {
            byte[] stream = new byte[random.nextInt(60)];
            random.nextBytes(stream);
            dueLikeLibrary("bytes of chance, round " + round, x, stream);
        }
        CHECKS.end();
    }

    private static byte[] textOf(Random random, int round) {
        byte[] text = new byte[random.nextInt(round % 20 == 0 ? 60_000 : 600)];
        int kinds = 1 + random.nextInt(256);
        for (int i = 0; i < text.length; i++) {
            boolean copy = i > 40 && random.nextInt(4) != 0;
            text[i] = copy ? text[i - 1 - random.nextInt(40)] : (byte) random.nextInt(kinds);
        }
        return text;
    }

    private static byte[] packedByLibrary(byte[] text, int level, int strategy) {
        Deflater deflater = new Deflater(level, true);
        deflater.setStrategy(strategy);
        deflater.setInput(text);
        deflater.finish();
        byte[] out = new byte[text.length * 2 + 1000];
        int size = 0;
        // A strategy that is set costs the library a call in which it does not finish.
        for (int call = 0; call < 10 && !deflater.finished(); call++) {
            size += deflater.deflate(out, size, out.length - size);
        }
        deflater.end();
        return Arrays.copyOf(out, size);
    }

    private static byte[] spoil(byte[] stream, Random random) {
        byte[] spoilt = Arrays.copyOf(stream, random.nextInt(4) == 0 ? random.nextInt(stream.length + 1) : stream.length);
        for (int i = 0; i < 2 && spoilt.length > 0; i++) {
            // Most of what can go wrong stands at the beginning.
            int near = random.nextBoolean() ? Math.min(spoilt.length, 20) : spoilt.length;
            spoilt[random.nextInt(near)] ^= (byte) (1 << random.nextInt(8));
        }
        return spoilt;
    }

    private static void loadAll(FlatBlocks x, byte[] stream) {
        x.reset();
        for (byte b : stream) {
            x.load(b & 255);
        }
    }

    private static void dueText(String name, FlatBlocks x, byte[] stream, byte[] text) {
        loadAll(x, stream);
        CHECKS.due(name + ": unpack()", x.unpack(), 0);
        CHECKS.due(name + ": bit() in whole bytes", (x.bit() + 7) / 8, stream.length);
        dueOut(name, x, text);
    }

    private static void dueOut(String name, FlatBlocks x, byte[] text) {
        CHECKS.due(name + ": count(3)", x.count(3), text.length);
        boolean alike = true;
        for (int i = 0; i < text.length; i++) {
            alike &= x.out(i) == (text[i] & 255);
        }
        CHECKS.due(name + ": the text", alike, true);
    }

    private static void dueLikeLibrary(String name, FlatBlocks x, byte[] stream) {
        int library = judgeByLibrary(stream);
        loadAll(x, stream);
        int why = x.unpack();
        int own = why == 0 ? GOOD : why == FlatBlocks.TRUNCATED ? ENDS : WRONG;
        // The library waits for a bit of a distance even if there are no codes for one.
        boolean noDistances = why == FlatBlocks.BAD_SYMBOL && x.bit() == 8 * stream.length && library == ENDS;
        if (!noDistances && why != FlatBlocks.FULL) {
            CHECKS.due(name + ": judged " + why + " at " + x.bit(), own, library);
        }
        if (why == 0 && library == GOOD) {
            CHECKS.due(name + ": bit() in whole bytes", (x.bit() + 7) / 8, bytesRead);
            dueOut(name, x, unpackedByLibrary);
        }
    }

    private static int judgeByLibrary(byte[] stream) {
        Inflater inflater = new Inflater(true);
        inflater.setInput(stream);
        byte[] out = new byte[ROOM + 1];
        try {
            int size = inflater.inflate(out);
            unpackedByLibrary = Arrays.copyOf(out, size);
            bytesRead = inflater.getTotalIn();
            return inflater.finished() ? GOOD : ENDS;
        } catch (DataFormatException e) {
            return WRONG;
        } finally {
            inflater.end();
        }
    }
}
