import java.util.Arrays;

/** Streams that come to a new object, with what is due of them. */
final class Streams {
    private static final int BITS_BEHIND = 24;

    private Streams() {
    }

    static FlatBlocks loaded(int room, int[] bytes) {
        FlatBlocks x = new FlatBlocks(room, Math.max(600, bytes.length), 1);
        Texts.load(x, bytes);
        return x;
    }

    static FlatBlocks due(Checks checks, String name, int room, int[] bytes, int why, int bit) {
        FlatBlocks x = loaded(room, bytes);
        checks.due(name + ": unpack()", x.unpack(), why);
        checks.due(name + ": bit()", x.bit(), bit);
        if (why != 0) {
            checks.due(name + ": count(3)", x.count(3), 0);
            checks.due(name + ": out(0)", x.out(0), FlatBlocks.BAD);
        }
        return x;
    }

    /**
     * Unpacking ends just behind these bits: no matter which bits follow, or if none do; and with a
     * byte less it is TRUNCATED.
     */
    static void dueEnd(Checks checks, String name, int room, Bits bits, int why) {
        int bit = bits.size();
        due(checks, name + ", 0s behind", room, bits.copy().number(0, BITS_BEHIND).bytes(), why, bit);
        due(checks, name + ", 1s behind", room, bits.copy().number(-1, BITS_BEHIND).bytes(), why, bit);
        due(checks, name + ", nothing behind", room, bits.bytes(), why, bit);
        if (bit > 0) {
            int cut = (bit - 1) / 8;
            due(checks, name + ", cut behind " + cut, room, Arrays.copyOf(bits.bytes(), cut), FlatBlocks.TRUNCATED, 8 * cut);
        }
    }

    static void dueEnd(Checks checks, String name, Bits bits, int why) {
        dueEnd(checks, name, 300, bits, why);
    }

    static void dueText(Checks checks, String name, Bits bits, int... text) {
        dueEnd(checks, name, Math.max(1, text.length), bits, 0);
        FlatBlocks x = loaded(Math.max(1, text.length), bits.bytes());
        x.unpack();
        Texts.dueUnpacked(checks, name, x, text);
    }

    /** The stream is right up to its end, but the end comes too early. */
    static void dueTruncated(Checks checks, String name, Bits bits) {
        int[] bytes = bits.bytes();
        due(checks, name, 300, bytes, FlatBlocks.TRUNCATED, 8 * bytes.length);
    }
}
