import java.util.Arrays;
import java.util.Random;

/**
 * Promises 8 to 10: unpack, out, bit, on streams of chance: all kinds of blocks, sound ones, ones with a
 * fault, ones that are cut, each compared with the plain unpacker.
 */
public final class UnpackTest {
    private static final Checks CHECKS = new Checks();
    private static final int[] SEEN = new int[FlatBlocks.FULL + 1];

    public static void main(String[] args) {
        Random random = new Random(21);
        for (int round = 0; round < 6000; round++) {
            int[] stream = new ChanceStream(random).bytes();
            int room = 1 + random.nextInt(round % 3 == 0 ? 60 : 3000);
            due("round " + round, stream, room);
            for (int spoilt = 0; spoilt < 4; spoilt++) {
                due("round " + round + ", spoilt " + spoilt, spoil(stream, random), room);
            }
        }
        for (int why = 0; why < SEEN.length; why++) {
            System.out.println("answer " + why + ": " + SEEN[why] + " streams");
            CHECKS.due("answer " + why + " came 100 times and more", SEEN[why] >= 100, true);
        }
        CHECKS.end();
    }

    private static int[] spoil(int[] stream, Random random) {
        int[] spoilt = Arrays.copyOf(stream, random.nextInt(3) == 0 ? random.nextInt(stream.length + 1) : stream.length);
        for (int i = random.nextInt(3); i > 0 && spoilt.length > 0; i--) {
            spoilt[random.nextInt(spoilt.length)] ^= 1 << random.nextInt(8);
        }
        return spoilt;
    }

    private static void due(String name, int[] stream, int room) {
        PlainUnpacker plain = new PlainUnpacker(stream, room);
        SEEN[plain.why]++;
        FlatBlocks x = Streams.due(CHECKS, name, room, stream, plain.why, plain.bit);
        boolean alike = x.count(3) == plain.text.length;
        for (int i = 0; alike && i < plain.text.length; i++) {
            alike = x.out(i) == plain.text[i];
        }
        CHECKS.due(name + ": the text", alike, true);
    }
}
