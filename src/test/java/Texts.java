/** What several tests do with an object. */
final class Texts {
    private Texts() {
    }

    static void feed(FlatBlocks x, int[] bytes) {
        for (int b : bytes) {
            x.feed(b);
        }
    }

    static void load(FlatBlocks x, int[] bytes) {
        for (int b : bytes) {
            x.load(b);
        }
    }

    static int[] packedOf(FlatBlocks x) {
        int[] bytes = new int[x.count(1)];
        for (int i = 0; i < bytes.length; i++) {
            bytes[i] = x.packed(i);
        }
        return bytes;
    }

    static void dueUnpacked(Checks checks, String name, FlatBlocks x, int[] text) {
        checks.due(name + ": count(3)", x.count(3), text.length);
        for (int i = 0; i < text.length; i++) {
            checks.due(name + ": out(" + i + ")", x.out(i), text[i]);
        }
        checks.due(name + ": out behind the text", x.out(text.length), FlatBlocks.BAD);
    }

    static void dueRoundTrip(Checks checks, String name, FlatBlocks x, int[] text) {
        int size = x.pack();
        checks.due(name + ": count(1)", x.count(1), size);
        checks.due(name + ": take()", x.take(), size);
        checks.due(name + ": unpack()", x.unpack(), 0);
        checks.due(name + ": same()", x.same(), true);
        dueUnpacked(checks, name, x, text);
    }
}
