import java.util.Random;

/** What it is, and promises 1 to 3, 5 to 7, 9, 11 to 13: the rows of an object, and what each call refuses. */
final class ObjectBounds {
    private static final int BAD = FlatBlocks.BAD;
    private static final int[] NO_BYTES = {-1, 256, 257, 511, -128, -256, 65_536, Integer.MIN_VALUE, Integer.MAX_VALUE};

    private final Sentences s;

    ObjectBounds(Sentences s) {
        this.s = s;
    }

    void run() {
        whatItIs();
        constants();
        newObject();
        feed();
        again();
        packed();
        load();
        take();
        out();
        same();
        reset();
        count();
    }

    private void whatItIs() {
        s.of("What it is", "Texts of bytes packed by matches and codes of unlike lengths into a published form, and unpacked from"
            + " whatever bytes are there: kept ones, fixed codes, codes that are told; the first bit that cannot be, and why.");
        int[] symbolLengths = new int[257];
        symbolLengths['c'] = 1;
        symbolLengths[256] = 1;
        Bits bits = new Bits().block(false, 0).kept('a').block(false, 1).fixed('b', 256)
            .toldBlock(false, symbolLengths, new int[] {0}).code("01");
        Streams.dueText(s, "all kinds", bits.copy().block(true, 0).kept(), 'a', 'b', 'c');
        Streams.dueEnd(s, "all kinds, and another", bits.copy().block(true, 3), FlatBlocks.BAD_KIND);

        s.of("What it is", "An object is used for at most 512 calls after it has been made; what later calls answer is free.");
        FlatBlocks x = new FlatBlocks(600, 600, 1);
        int[] text = new int[507];
        for (int i = 0; i < text.length; i++) {
            text[i] = i * i / 7 & 255;
            s.due("call " + (i + 1) + ", feed(" + text[i] + ")", x.feed(text[i]), true);
        }
        int size = new PlainPacker(text, 1).bytes.length;
        s.due("call 508, pack()", x.pack(), size);
        s.due("call 509, take()", x.take(), size);
        s.due("call 510, unpack()", x.unpack(), 0);
        s.due("call 511, same()", x.same(), true);
        s.due("call 512, out(506)", x.out(506), text[506]);
    }

    private void constants() {
        s.of("The public face", "public static final int BAD = -1, TRUNCATED = 1, BAD_KIND = 2, BAD_KEPT = 3, BAD_CODES = 4,"
            + " BAD_SYMBOL = 5, TOO_FAR = 6, FULL = 7;");
        int[] reasons = {FlatBlocks.TRUNCATED, FlatBlocks.BAD_KIND, FlatBlocks.BAD_KEPT, FlatBlocks.BAD_CODES, FlatBlocks.BAD_SYMBOL,
            FlatBlocks.TOO_FAR, FlatBlocks.FULL};
        s.due("BAD", FlatBlocks.BAD, -1);
        for (int i = 0; i < reasons.length; i++) {
            s.due("reason " + (i + 1), reasons[i], i + 1);
        }
        Bits[] streams = {new Bits(), new Bits().block(true, 3), new Bits().block(true, 0).toWholeByte().number(0, 32),
            new Bits().block(true, 2).number(31, 14), new Bits().block(true, 1).fixed(286), new Bits().block(true, 1).match(3, 1),
            new Bits().block(true, 1).fixed(1, 2)};
        for (int i = 0; i < streams.length; i++) {
            s.due("unpack() with reason " + (i + 1), Streams.loaded(1, streams[i].bytes()).unpack(), i + 1);
        }
    }

    private void newObject() {
        s.of("Promise 1: A new object", "Room for a text (1 .. 70,000, brought within),");
        int[][] texts = {{Integer.MIN_VALUE, 1}, {-70_000, 1}, {-1, 1}, {0, 1}, {1, 1}, {2, 2}, {3, 3}, {69_999, 69_999},
            {70_000, 70_000}, {70_001, 70_000}, {80_000, 70_000}, {Integer.MAX_VALUE, 70_000}};
        for (int[] row : texts) {
            dueTextRoom(row[0], row[1]);
            dueUnpackedRoom(row[0], row[1]);
        }
        s.of("Promise 1: A new object", "for bytes (16 .. 80,000),");
        int[][] bytes = {{Integer.MIN_VALUE, 16}, {-1, 16}, {0, 16}, {1, 16}, {15, 16}, {16, 16}, {17, 17}, {79_999, 79_999},
            {80_000, 80_000}, {80_001, 80_000}, {Integer.MAX_VALUE, 80_000}};
        for (int[] row : bytes) {
            dueLoadedRoom(row[0], row[1]);
            if (row[1] < 20) {
                duePackedRoom(row[0], row[1]);
            }
        }
        s.of("Promise 1: A new object", "all is empty.");
        FlatBlocks x = new FlatBlocks(10, 20, 3);
        dueEmpty(x);
        s.due("bit()", x.bit(), 0);
        s.due("unpack()", x.unpack(), FlatBlocks.TRUNCATED);
        dueEmpty(x);
    }

    private void dueEmpty(FlatBlocks x) {
        for (int what = 0; what <= 4; what++) {
            s.due("count(" + what + ")", x.count(what), 0);
        }
        s.due("packed(0)", x.packed(0), BAD);
        s.due("out(0)", x.out(0), BAD);
        s.due("same()", x.same(), true);
        s.due("take()", x.take(), 0);
        s.due("again(1, 1)", x.again(1, 1), BAD);
    }

    private void dueTextRoom(int asked, int given) {
        FlatBlocks x = new FlatBlocks(asked, 16, 1);
        String name = "text " + asked + ": ";
        s.due(name + "feed(7)", x.feed(7), true);
        s.due(name + "again(1, room)", x.again(1, given), BAD);
        if (given > 1) {
            s.due(name + "again(1, room - 1)", x.again(1, given - 1), given);
        }
        s.due(name + "feed at the end", x.feed(7), false);
        s.due(name + "again(1, 1) at the end", x.again(1, 1), BAD);
        s.due(name + "count(0)", x.count(0), given);
    }

    private void dueUnpackedRoom(int asked, int given) {
        for (int more = 0; more < 2; more++) {
            FlatBlocks x = new FlatBlocks(asked, 600, 1);
            Texts.load(x, new Bits().block(true, 1).like(9, given + more).fixed(256).bytes());
            String name = "text " + asked + ", unpacked " + (given + more) + ": ";
            s.due(name + "unpack()", x.unpack(), more == 0 ? 0 : FlatBlocks.FULL);
            s.due(name + "count(3)", x.count(3), more == 0 ? given : 0);
        }
    }

    private void dueLoadedRoom(int asked, int given) {
        FlatBlocks x = new FlatBlocks(1, asked, 1);
        int fits = 0;
        while (fits < 100_000 && x.load(fits & 255)) {
            fits++;
        }
        s.due("bytes " + asked + ": loads", fits, given);
        s.due("bytes " + asked + ": count(2)", x.count(2), given);
    }

    /** Few unlike bytes are kept, five bytes more than there are. */
    private void duePackedRoom(int asked, int given) {
        FlatBlocks x = new FlatBlocks(100, asked, 1);
        for (int i = 0; i < given - 5; i++) {
            x.feed(i);
        }
        s.due("bytes " + asked + ": pack()", x.pack(), given);
        x.feed(99);
        s.due("bytes " + asked + ": pack() of a byte more", x.pack(), -93);
        s.due("bytes " + asked + ": take()", x.take(), given);
    }

    private void feed() {
        s.of("Promise 2: feed", "A byte comes to the text, 0 .. 255.");
        FlatBlocks x = new FlatBlocks(256, 300, 3);
        int[] all = new int[256];
        for (int b = 0; b < 256; b++) {
            all[b] = b;
            s.due("feed(" + b + ")", x.feed(b), true);
            s.due("count(0)", x.count(0), b + 1);
        }
        x = new FlatBlocks(256, 300, 3);
        Texts.feed(x, new int[] {0, 255, 128, 127});
        Texts.dueRoundTrip(s, "the bytes", x, new int[] {0, 255, 128, 127});

        s.of("Promise 2: feed", "False: none such, no room.");
        x = new FlatBlocks(3, 20, 3);
        for (int b : NO_BYTES) {
            s.due("feed(" + b + ")", x.feed(b), false);
        }
        s.due("count(0) after these", x.count(0), 0);
        Texts.feed(x, new int[] {4, 5});
        s.due("feed of the last byte", x.feed(6), true);
        s.due("feed without room", x.feed(6), false);
        s.due("feed(256) without room", x.feed(256), false);
        s.due("count(0)", x.count(0), 3);
        Texts.dueRoundTrip(s, "what was refused did not come", x, new int[] {4, 5, 6});
        s.due("feed without room, after pack()", x.feed(6), false);
    }

    private void again() {
        s.of("Promise 3: again", "The text's last bytes, so many (1 .. 258) of them,");
        FlatBlocks x = new FlatBlocks(70_000, 700, 64);
        for (int i = 0; i < 259; i++) {
            x.feed(i & 255);
        }
        int[][] wrong = {{0, 1}, {-1, 1}, {259, 1}, {260, 1}, {Integer.MIN_VALUE, 1}, {Integer.MAX_VALUE, 1}, {65_537, 65_537}};
        for (int[] row : wrong) {
            s.due("again(" + row[0] + ", " + row[1] + ")", x.again(row[0], row[1]), BAD);
        }
        s.due("count(0) after these", x.count(0), 259);
        s.due("again(258, 1)", x.again(258, 1), 517);
        s.due("again(1, 1)", x.again(1, 1), 518);
        x.pack();
        x.take();
        s.due("unpack()", x.unpack(), 0);
        s.due("the first one of 258", x.out(259), 1);
        s.due("the last one of 258", x.out(516), 2);
        s.due("the one", x.out(517), 2);

        s.of("Promise 3: again", "come to it so often again (1 .. 70,000): how long it is.");
        x = new FlatBlocks(70_000, 700, 3);
        Texts.feed(x, new int[] {1, 2, 3});
        int[] noTimes = {0, -1, 70_001, 70_002, Integer.MIN_VALUE, Integer.MAX_VALUE};
        for (int times : noTimes) {
            s.due("again(1, " + times + ")", x.again(1, times), BAD);
        }
        // 2^32 and some more, as an int: no room for so many, although the rest would fit.
        int[][] around = {{1, 1 << 30}, {2, 1 << 31 | 1}, {3, 1_431_655_767}, {2, 1 << 30 | 1}};
        for (int[] row : around) {
            s.due("again(" + row[0] + ", " + row[1] + ")", x.again(row[0], row[1]), BAD);
        }
        s.due("count(0) after these", x.count(0), 3);
        s.due("again(2, 1)", x.again(2, 1), 5);
        s.due("again(3, 2)", x.again(3, 2), 11);
        Texts.dueRoundTrip(s, "the text", x, new int[] {1, 2, 3, 2, 3, 3, 2, 3, 3, 2, 3});
        s.due("again(1, 69989)", x.again(1, 69_989), 70_000);

        s.of("Promise 3: again", "BAD: none such, no room for all.");
        x = new FlatBlocks(600, 700, 3);
        s.due("again(1, 1) of no bytes", x.again(1, 1), BAD);
        Texts.feed(x, new int[] {5, 6});
        s.due("again(3, 1) of two bytes", x.again(3, 1), BAD);
        s.due("again(258, 1) of two bytes", x.again(258, 1), BAD);
        s.due("again(2, 1) of two bytes", x.again(2, 1), 4);
        s.due("again(4, 150): one time too many", x.again(4, 150), BAD);
        s.due("again(3, 199): one byte too many", x.again(3, 199), BAD);
        s.due("again(258, 70000): no room in any text", x.again(258, 70_000), BAD);
        s.due("again(1, 70000)", x.again(1, 70_000), BAD);
        s.due("count(0) after these", x.count(0), 4);
        s.due("again(4, 149): just room", x.again(4, 149), 600);
        s.due("again(1, 1) without room", x.again(1, 1), BAD);
        s.due("count(0)", x.count(0), 600);
        x.pack();
        x.take();
        x.unpack();
        s.due("the last byte", x.out(599), 6);
        s.due("the one before", x.out(598), 5);
        FlatBlocks large = new FlatBlocks(70_000, 700, 3);
        large.feed(5);
        s.due("again(1, 70000) of the largest text", large.again(1, 70_000), BAD);
        s.due("again(1, 69999) of the largest text", large.again(1, 69_999), 70_000);
    }

    private void packed() {
        s.of("Promise 5: packed", "Byte i of what was packed.");
        FlatBlocks x = new FlatBlocks(20, 20, 1);
        Texts.feed(x, new int[] {200, 0, 255});
        x.pack();
        int[] due = {1, 3, 0, 252, 255, 200, 0, 255};
        for (int i = 0; i < due.length; i++) {
            s.due("packed(" + i + ")", x.packed(i), due[i]);
        }
        s.of("Promise 5: packed", "BAD: none such.");
        int[] wrong = {8, 9, 19, 20, -1, -8, Integer.MIN_VALUE, Integer.MAX_VALUE};
        for (int i : wrong) {
            s.due("packed(" + i + ")", x.packed(i), BAD);
        }
        x.reset();
        x.pack();
        s.due("of an empty text, packed(4)", x.packed(4), 255);
        s.due("of an empty text, packed(5)", x.packed(5), BAD);
        s.due("of another object, packed(0)", new FlatBlocks(20, 20, 1).packed(0), BAD);
    }

    private void load() {
        s.of("Promise 6: load", "A byte comes to what is unpacked, 0 .. 255.");
        FlatBlocks x = new FlatBlocks(300, 300, 1);
        int[] all = new int[256];
        for (int b = 0; b < 256; b++) {
            all[b] = b;
        }
        int[] stream = new Bits().block(true, 0).kept(all).bytes();
        for (int i = 0; i < stream.length; i++) {
            s.due("load(" + stream[i] + ")", x.load(stream[i]), true);
        }
        s.due("count(2)", x.count(2), 261);
        s.due("unpack()", x.unpack(), 0);
        for (int b = 0; b < 256; b += 51) {
            s.due("out(" + b + ")", x.out(b), b);
        }

        s.of("Promise 6: load", "False: none such, no room.");
        x = new FlatBlocks(20, 16, 1);
        for (int b : NO_BYTES) {
            s.due("load(" + b + ")", x.load(b), false);
        }
        s.due("count(2) after these", x.count(2), 0);
        stream = new Bits().block(true, 0).kept(0, 1, 2, 3, 4, 5, 6, 7, 8, 9, 10).bytes();
        for (int i = 0; i < 16; i++) {
            s.due("load within the room", x.load(stream[i]), true);
        }
        s.due("load without room", x.load(0), false);
        s.due("load(256) without room", x.load(256), false);
        s.due("count(2)", x.count(2), 16);
        s.due("unpack()", x.unpack(), 0);
        s.due("out(10)", x.out(10), 10);
        s.due("load without room, after unpack()", x.load(0), false);
        s.due("count(0)", x.count(0), 0);
        s.due("count(1)", x.count(1), 0);
    }

    private void take() {
        s.of("Promise 7: take", "What was packed is what is unpacked: how many bytes.");
        FlatBlocks x = new FlatBlocks(100, 16, 1);
        x.load(9);
        s.due("take() before pack()", x.take(), 0);
        s.due("count(2), what was loaded is gone", x.count(2), 0);
        Texts.feed(x, new int[] {1, 2, 3, 4, 5, 6, 7, 8, 9, 10, 11});
        s.due("pack(), the room is full", x.pack(), 16);
        s.due("unpack() before take()", x.unpack(), FlatBlocks.TRUNCATED);
        Texts.load(x, new int[] {7, 7, 7});
        s.due("take()", x.take(), 16);
        s.due("count(2)", x.count(2), 16);
        s.due("count(1) stays", x.count(1), 16);
        s.due("packed(15) stays", x.packed(15), 11);
        s.due("load behind a full row", x.load(0), false);
        s.due("unpack()", x.unpack(), 0);
        s.due("same()", x.same(), true);
        s.due("take() again", x.take(), 16);
        s.due("count(3) stays", x.count(3), 11);
        s.due("bit() stays", x.bit(), 128);

        x = new FlatBlocks(100, 16, 1);
        Texts.feed(x, new int[] {1, 2, 3});
        x.pack();
        s.due("take() of three", x.take(), 8);
        s.due("load behind these", x.load(200), true);
        s.due("count(2)", x.count(2), 9);
        s.due("count(1)", x.count(1), 8);
        x.feed(4);
        s.due("pack() leaves what is unpacked", x.pack(), 9);
        s.due("unpack()", x.unpack(), 0);
        Texts.dueUnpacked(s, "as it was taken", x, new int[] {1, 2, 3});
    }

    private void out() {
        s.of("Promise 9: out", "Byte i of the unpacked text.");
        FlatBlocks x = new FlatBlocks(20, 20, 1);
        Texts.load(x, new Bits().block(true, 0).kept(255, 0, 128).bytes());
        s.due("out(0) before unpack()", x.out(0), BAD);
        x.unpack();
        Texts.dueUnpacked(s, "three bytes", x, new int[] {255, 0, 128});
        x.load(1);
        s.due("out(0) after load()", x.out(0), 255);

        s.of("Promise 9: out", "BAD: none such.");
        int[] wrong = {3, 4, 19, 20, -1, -3, Integer.MIN_VALUE, Integer.MAX_VALUE};
        for (int i : wrong) {
            s.due("out(" + i + ")", x.out(i), BAD);
        }
        x.reset();
        s.due("out(0) after reset()", x.out(0), BAD);
        Texts.load(x, new Bits().block(true, 0).kept().bytes());
        s.due("unpack() of no bytes", x.unpack(), 0);
        s.due("out(0) of no bytes", x.out(0), BAD);
    }

    private void same() {
        s.of("Promise 11: same", "Whether the unpacked text is the text");
        FlatBlocks x = new FlatBlocks(100, 100, 1);
        Texts.feed(x, new int[] {5, 6});
        Texts.load(x, new Bits().block(true, 0).kept(5, 6).bytes());
        s.due("not unpacked yet", x.same(), false);
        x.unpack();
        s.due("alike", x.same(), true);
        x.feed(7);
        s.due("the text is longer", x.same(), false);
        int[][] others = {{5, 7}, {4, 6}, {5}, {5, 6, 6}, {6, 5}, {}};
        for (int[] other : others) {
            x.reset();
            Texts.feed(x, new int[] {5, 6});
            Texts.load(x, new Bits().block(true, 0).kept(other).bytes());
            s.due("unpack()", x.unpack(), 0);
            s.due("another text", x.same(), false);
        }

        s.of("Promise 11: same", "(one of no bytes, if there is none).");
        x.reset();
        s.due("both empty", x.same(), true);
        x.feed(5);
        s.due("nothing unpacked", x.same(), false);
        x.reset();
        Texts.load(x, new Bits().block(true, 0).kept(5).bytes());
        x.unpack();
        s.due("a text against none", x.same(), false);
        x.reset();
        Texts.load(x, new Bits().block(false, 0).kept(5).block(true, 3).bytes());
        s.due("unpack() of a bad stream", x.unpack(), FlatBlocks.BAD_KIND);
        s.due("no text against an empty one", x.same(), true);
        x.feed(5);
        s.due("no text against one byte, that came before it went wrong", x.same(), false);
    }

    private void reset() {
        s.of("Promise 12: reset", "All rows are empty.");
        FlatBlocks x = new FlatBlocks(100, 200, 3);
        Texts.feed(x, new int[] {9, 8, 7});
        x.again(3, 32);
        x.pack();
        x.take();
        x.unpack();
        s.due("matches before", x.count(4), 1);
        x.reset();
        dueEmpty(x);
        s.due("unpack()", x.unpack(), FlatBlocks.TRUNCATED);
        s.due("bit()", x.bit(), 0);
        x.reset();
        dueEmpty(x);
        Texts.feed(x, new int[] {9, 8, 7, 1, 9, 8, 7});
        Texts.dueRoundTrip(s, "a text behind it", x, new int[] {9, 8, 7, 1, 9, 8, 7});
        s.due("the rooms stay: again(7, 14)", x.again(7, 14), BAD);
        s.due("the rooms stay: again(7, 13)", x.again(7, 13), 98);
        x.reset();
        s.due("pack() of no bytes", x.pack(), 5);
        // Nothing of the text before is left where matches are searched.
        x.reset();
        int[] other = Packs.repeated(new int[] {1, 9, 8, 7, 2, 9, 8}, 7, 13);
        Texts.feed(x, other);
        Packs.due(s, "another text, of matches", x, other, 3);

        // bit() is no row: it tells of the last unpack(), whatever came since.
        x = new FlatBlocks(100, 200, 3);
        x.pack();
        x.take();
        x.unpack();
        x.reset();
        s.due("bit() of the unpack() before", x.bit(), 40);
    }

    private void count() {
        s.of("Promise 13: count", "0 bytes of the text, 1 of what was packed, 2 of what is unpacked, 3 of the unpacked text,");
        FlatBlocks x = new FlatBlocks(1000, 200, 3);
        Texts.feed(x, new int[] {9, 8, 7});
        x.again(3, 100);
        int size = x.pack();
        dueCounts("packed", x, 303, size, 0, 0);
        x.take();
        dueCounts("taken", x, 303, size, size, 0);
        x.unpack();
        dueCounts("unpacked", x, 303, size, size, 303);
        x.load(1);
        x.feed(1);
        dueCounts("load and feed", x, 304, size, size + 1, 303);

        s.of("Promise 13: count", "4 matches of what was packed (0, if it was kept).");
        x = new FlatBlocks(1000, 200, 3);
        Texts.feed(x, new int[] {9, 8, 7, 6, 9, 8, 7, 6});
        s.due("pack(), with a match that is not written", x.pack(), 13);
        s.due("count(4), kept", x.count(4), 0);
        x.again(4, 100);
        s.due("count(4) before pack()", x.count(4), 0);
        x.pack();
        s.due("count(4), 404 bytes like those 4 before", x.count(4), 2);
        x.feed(1);
        s.due("count(4) before the next pack()", x.count(4), 2);
        x = new FlatBlocks(1000, 1000, 3);
        Texts.feed(x, new int[] {9, 8, 7});
        x.again(3, 8);
        x.pack();
        s.due("count(4) of 24 bytes like those 3 before", x.count(4), 1);
        Texts.feed(x, new Random(12).ints(300, 0, 256).toArray());
        s.due("pack(), now kept", x.pack(), 332);
        s.due("count(4), now kept", x.count(4), 0);

        s.of("Promise 13: count", "BAD: another number.");
        int[] wrong = {-1, 5, 6, 7, 256, Integer.MIN_VALUE, Integer.MAX_VALUE};
        for (int what : wrong) {
            s.due("count(" + what + ")", x.count(what), BAD);
        }
    }

    private void dueCounts(String name, FlatBlocks x, int... counts) {
        for (int what = 0; what < counts.length; what++) {
            s.due(name + ", count(" + what + ")", x.count(what), counts[what]);
        }
    }
}
