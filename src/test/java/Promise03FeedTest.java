/** Promise 3: feed. */
public final class Promise03FeedTest {
    private static final Check CHECK = new Check("Promise03FeedTest");

    public static void main(String[] args) throws Exception {
        CHECK.runAll(Promise03FeedTest.class);
    }

    private static int feedLetters(StickerPress p) {
        return p.feed(0x41424344, 0x45464748, 0x494A4B4C, 0x4D4E4F50, 0x51525354);
    }

    private static int feedNoughts(StickerPress p) {
        return p.feed(0x30303030, 0x30303030, 0x30303030, 0x30303030, 0x30303030);
    }

    private static void feedFull(StickerPress p) {
        for (int i = 0; i < 10; i++) {
            feedLetters(p);
        }
    }

    /** "Twenty bytes come .. of each number the highest first". */
    static void highestByteFirst() {
        StickerPress p = new StickerPress();
        feedLetters(p);
        p.fit(999);
        CHECK.due("bytes", Check.out(p), "ABCDEFGHIJKLMNOPQRST");
    }

    /** "come behind the TAPE". */
    static void comeBehind() {
        StickerPress p = new StickerPress();
        feedLetters(p);
        p.end(3);
        CHECK.due("how many", feedNoughts(p), 23);
        p.fit(999);
        CHECK.due("bytes", Check.out(p), "ABC" + "0".repeat(20));
    }

    /** "come behind the TAPE": also behind one that was OUT. */
    static void comeBehindWhatWasTaken() {
        StickerPress p = new StickerPress();
        Bars.bars(p, "12345678901");
        p.take();
        CHECK.due("how many", feedNoughts(p), 87);
        Check.fit(p, "", 0);
        p.take();
        CHECK.due("behind an empty one", feedNoughts(p), 20);
    }

    /** Bytes are 0 .. 255: the highest bit is no sign of a number, and a 0 is a byte. */
    static void bytesOfAllKinds() {
        int[] wrong = {0x00000000, 0x80808080, 0xFFFFFFFF};
        for (int number : wrong) {
            StickerPress p = new StickerPress();
            CHECK.due("how many of " + number, p.feed(number, number, number, number, number), 20);
            CHECK.due("all are there", p.end(17), true);
            p.read();
            CHECK.due("none is 1 .. 99", p.fault(0), 1);
        }
        StickerPress p = new StickerPress();
        CHECK.due("stripes 99 wide", Bars.read(p, Bars.stripesOf("17"), 1, 99), 2);
        CHECK.due("stripes 255 wide", Bars.read(p, Bars.stripesOf("17"), 1, 255), StickerPress.NONE);
    }

    /** "how many it has". */
    static void howMany() {
        StickerPress p = new StickerPress();
        for (int i = 1; i <= 9; i++) {
            CHECK.due("feed " + i, feedLetters(p), 20 * i);
        }
    }

    /** "if there would be more than 200": just 200 are not more. */
    static void justFull() {
        StickerPress p = new StickerPress();
        feedFull(p);
        CHECK.due("all 200 are there", p.end(200), true);
        p.end(180);
        CHECK.due("180 and 20", feedNoughts(p), 200);
        CHECK.due("all 200 are there again", p.end(200), true);
    }

    /** "NONE, and nothing comes, if there would be more than 200": the tape is full. */
    static void fullTape() {
        Twins.dueNone(CHECK, "feed", Promise03FeedTest::feedFull, p -> feedNoughts(p));
    }

    /** "NONE, and nothing comes, if there would be more than 200": not even those that have room. */
    static void nearlyFullTape() {
        for (int size : new int[] {181, 190, 199}) {
            Twins.Calls ahead = p -> { feedFull(p); p.end(size); };
            Twins.dueNone(CHECK, "feed behind " + size, ahead, p -> feedNoughts(p));
        }
    }

    /** A refused feed is refused for that tape alone. */
    static void fullTapeCutAndFed() {
        StickerPress p = new StickerPress();
        feedFull(p);
        feedNoughts(p);
        p.end(5);
        CHECK.due("behind 5", feedNoughts(p), 25);
        p.fit(999);
        CHECK.due("bytes", Check.out(p), "ABCDE" + "0".repeat(20));
    }
}
