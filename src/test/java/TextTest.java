/** Promises 1, 2, 3, 12 and 13: a new object, feed, again, reset, count. */
public final class TextTest {
    private static final Checks CHECKS = new Checks();

    public static void main(String[] args) {
        newObjectIsEmpty();
        roomsAreBroughtWithin();
        feedTakesBytesWhileThereIsRoom();
        againRepeatsTheLastBytes();
        againRefusesWhatCannotBe();
        resetEmptiesAllRows();
        countTellsTheRows();
        CHECKS.end();
    }

    private static void newObjectIsEmpty() {
        FlatBlocks x = new FlatBlocks(10, 20, 3);
        for (int what = 0; what <= 4; what++) {
            CHECKS.due("new: count(" + what + ")", x.count(what), 0);
        }
        CHECKS.due("new: packed(0)", x.packed(0), FlatBlocks.BAD);
        CHECKS.due("new: out(0)", x.out(0), FlatBlocks.BAD);
        CHECKS.due("new: bit()", x.bit(), 0);
        CHECKS.due("new: same()", x.same(), true);
        CHECKS.due("new: take()", x.take(), 0);
        CHECKS.due("new: again(1, 1)", x.again(1, 1), FlatBlocks.BAD);
    }

    private static void roomsAreBroughtWithin() {
        textRoom(Integer.MIN_VALUE, 1);
        textRoom(-1, 1);
        textRoom(0, 1);
        textRoom(1, 1);
        textRoom(2, 2);
        textRoom(69_999, 69_999);
        textRoom(70_000, 70_000);
        textRoom(70_001, 70_000);
        textRoom(Integer.MAX_VALUE, 70_000);
        bytesRoom(Integer.MIN_VALUE, 16);
        bytesRoom(15, 16);
        bytesRoom(16, 16);
        bytesRoom(17, 17);
        bytesRoom(80_000, 80_000);
        bytesRoom(80_001, 80_000);
        bytesRoom(Integer.MAX_VALUE, 80_000);
    }

    private static void textRoom(int asked, int given) {
        FlatBlocks x = new FlatBlocks(asked, 16, 1);
        String name = "text room " + asked + ": ";
        CHECKS.due(name + "feed(7)", x.feed(7), true);
        if (given > 1) {
            CHECKS.due(name + "again(1, room)", x.again(1, given), FlatBlocks.BAD);
            CHECKS.due(name + "again(1, room - 1)", x.again(1, given - 1), given);
        }
        CHECKS.due(name + "feed at the end", x.feed(7), false);
        CHECKS.due(name + "count(0)", x.count(0), given);
    }

    private static void bytesRoom(int asked, int given) {
        FlatBlocks x = new FlatBlocks(1, asked, 1);
        int fits = 0;
        while (fits < 100_000 && x.load(fits & 255)) {
            fits++;
        }
        CHECKS.due("bytes room " + asked + ": loads", fits, given);
        CHECKS.due("bytes room " + asked + ": count(2)", x.count(2), given);
    }

    private static void feedTakesBytesWhileThereIsRoom() {
        FlatBlocks x = new FlatBlocks(3, 20, 3);
        int[] wrong = {-1, 256, 1000, Integer.MIN_VALUE, Integer.MAX_VALUE};
        for (int b : wrong) {
            CHECKS.due("feed(" + b + ")", x.feed(b), false);
        }
        CHECKS.due("after wrong ones: count(0)", x.count(0), 0);
        CHECKS.due("feed(0)", x.feed(0), true);
        CHECKS.due("feed(255)", x.feed(255), true);
        CHECKS.due("feed(128)", x.feed(128), true);
        CHECKS.due("feed without room", x.feed(1), false);
        CHECKS.due("count(0)", x.count(0), 3);
        CHECKS.due("count(2) of what was not loaded", x.count(2), 0);
        Texts.dueRoundTrip(CHECKS, "fed", x, new int[] {0, 255, 128});
    }

    private static void againRepeatsTheLastBytes() {
        FlatBlocks x = new FlatBlocks(100, 200, 3);
        Texts.feed(x, new int[] {1, 2, 3});
        CHECKS.due("again(2, 3)", x.again(2, 3), 9);
        CHECKS.due("again(9, 1)", x.again(9, 1), 18);
        Texts.dueRoundTrip(CHECKS, "again", x, new int[] {1, 2, 3, 2, 3, 2, 3, 2, 3, 1, 2, 3, 2, 3, 2, 3, 2, 3});
    }

    private static void againRefusesWhatCannotBe() {
        FlatBlocks x = new FlatBlocks(600, 700, 3);
        CHECKS.due("again of an empty text", x.again(1, 1), FlatBlocks.BAD);
        x.feed(5);
        CHECKS.due("again(2, 1) of one byte", x.again(2, 1), FlatBlocks.BAD);
        CHECKS.due("again(1, 299)", x.again(1, 299), 300);
        int[][] wrong = {{0, 1}, {-1, 1}, {259, 1}, {Integer.MAX_VALUE, 1}, {Integer.MIN_VALUE, 1}, {1, 0}, {1, -1},
            {1, 70_001}, {1, Integer.MAX_VALUE}, {1, Integer.MIN_VALUE}, {258, 70_000}, {1, 301}, {258, 2}, {65_536, 65_536}};
        for (int[] row : wrong) {
            CHECKS.due("again(" + row[0] + ", " + row[1] + ")", x.again(row[0], row[1]), FlatBlocks.BAD);
        }
        CHECKS.due("nothing came", x.count(0), 300);
        CHECKS.due("again(258, 1)", x.again(258, 1), 558);
        CHECKS.due("again(1, 43)", x.again(1, 43), FlatBlocks.BAD);
        CHECKS.due("again(1, 42)", x.again(1, 42), 600);
        CHECKS.due("again(1, 1) without room", x.again(1, 1), FlatBlocks.BAD);
        FlatBlocks large = new FlatBlocks(70_000, 100, 3);
        large.feed(5);
        CHECKS.due("again(1, 70000) without room", large.again(1, 70_000), FlatBlocks.BAD);
        CHECKS.due("again(1, 69999)", large.again(1, 69_999), 70_000);
    }

    private static void resetEmptiesAllRows() {
        FlatBlocks x = new FlatBlocks(100, 200, 3);
        Texts.feed(x, new int[] {9, 8, 7});
        x.again(3, 32);
        x.pack();
        x.take();
        x.unpack();
        int took = x.bit();
        CHECKS.due("before reset: matches", x.count(4), 1);
        x.reset();
        for (int what = 0; what <= 4; what++) {
            CHECKS.due("reset: count(" + what + ")", x.count(what), 0);
        }
        CHECKS.due("reset: packed(0)", x.packed(0), FlatBlocks.BAD);
        CHECKS.due("reset: out(0)", x.out(0), FlatBlocks.BAD);
        CHECKS.due("reset: same()", x.same(), true);
        CHECKS.due("reset: bit() is no row", x.bit(), took);
        CHECKS.due("reset: take()", x.take(), 0);
        Texts.feed(x, new int[] {9, 8, 7, 1, 9, 8, 7});
        Texts.dueRoundTrip(CHECKS, "after reset", x, new int[] {9, 8, 7, 1, 9, 8, 7});
        CHECKS.due("the rooms stay", x.again(7, 14), FlatBlocks.BAD);
        CHECKS.due("the rooms stay", x.again(7, 13), 98);
    }

    private static void countTellsTheRows() {
        FlatBlocks x = new FlatBlocks(1000, 200, 3);
        Texts.feed(x, new int[] {9, 8, 7});
        x.again(3, 100);
        int size = x.pack();
        CHECKS.due("count(0)", x.count(0), 303);
        CHECKS.due("count(1)", x.count(1), size);
        CHECKS.due("count(2)", x.count(2), 0);
        CHECKS.due("count(3)", x.count(3), 0);
        CHECKS.due("count(4)", x.count(4), 2);
        CHECKS.due("take()", x.take(), size);
        CHECKS.due("count(2)", x.count(2), size);
        CHECKS.due("count(3) before unpack()", x.count(3), 0);
        CHECKS.due("unpack()", x.unpack(), 0);
        CHECKS.due("count(3)", x.count(3), 303);
        int[] wrong = {-1, 5, 6, Integer.MIN_VALUE, Integer.MAX_VALUE};
        for (int what : wrong) {
            CHECKS.due("count(" + what + ")", x.count(what), FlatBlocks.BAD);
        }
    }
}
