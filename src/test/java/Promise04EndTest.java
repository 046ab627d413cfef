/** Promise 4: end. */
public final class Promise04EndTest {
    private static final Check CHECK = new Check("Promise04EndTest");

    public static void main(String[] args) throws Exception {
        CHECK.runAll(Promise04EndTest.class);
    }

    private static void feedLetters(StickerPress p) {
        p.feed(0x41424344, 0x45464748, 0x494A4B4C, 0x4D4E4F50, 0x51525354);
    }

    private static void feedFull(StickerPress p) {
        for (int i = 0; i < 10; i++) {
            feedLetters(p);
        }
    }

    /** "The TAPE has its first n bytes alone: true". */
    static void firstBytesAlone() {
        String letters = "ABCDEFGHIJKLMNOPQRST";
        for (int n = 0; n <= 20; n++) {
            StickerPress p = new StickerPress();
            feedLetters(p);
            CHECK.due("end " + n, p.end(n), true);
            CHECK.due("how wide", p.fit(999), 5 * n);
            CHECK.due("bytes", Check.out(p), letters.substring(0, n));
        }
    }

    /** "its first n bytes": all of them. */
    static void allBytes() {
        CHECK.due("changes nothing", Twins.difference(Promise04EndTest::feedLetters, p -> p.end(20), p -> { }), "");
        CHECK.due("nor with a full tape", Twins.difference(Promise04EndTest::feedFull, p -> p.end(200), p -> { }), "");
    }

    /** "its first n bytes": none of them. */
    static void noBytes() {
        StickerPress p = new StickerPress();
        feedFull(p);
        CHECK.due("end 0", p.end(0), true);
        CHECK.due("the tape is empty", p.end(1), false);
    }

    /** "alone": those behind are gone, and what is fed comes in their place. */
    static void cutBytesAreGone() {
        StickerPress p = new StickerPress();
        feedLetters(p);
        p.end(5);
        CHECK.due("end 6", p.end(6), false);
        CHECK.due("end 20", p.end(20), false);
        CHECK.due("feed", p.feed(0x30303030, 0x30303030, 0x30303030, 0x30303030, 0x30303030), 25);
        p.fit(999);
        CHECK.due("bytes", Check.out(p), "ABCDE" + "0".repeat(20));
    }

    /** "false, changing nothing, if it has not so many". */
    static void notSoMany() {
        for (int n : new int[] {21, 22, 40, 200, 201, 256, Integer.MAX_VALUE}) {
            Twins.dueFalse(CHECK, "end " + n, Promise04EndTest::feedLetters, p -> p.end(n));
        }
        Twins.dueFalse(CHECK, "end 25 of a busy press", Twins::busy, p -> p.end(25));
    }

    /** "false, changing nothing, if it has not so many": a full tape. */
    static void notSoManyOfAFullTape() {
        Twins.dueFalse(CHECK, "end 201", Promise04EndTest::feedFull, p -> p.end(201));
    }

    /** "false, changing nothing, if it has not so many": an empty tape, of which 0 can be. */
    static void notSoManyOfAnEmptyTape() {
        Twins.dueFalse(CHECK, "end 1", p -> { }, p -> p.end(1));
        CHECK.due("end 0", new StickerPress().end(0), true);
    }

    /** "false, changing nothing, if .. n is below 0". */
    static void belowZero() {
        for (int n : new int[] {-1, -20, Integer.MIN_VALUE}) {
            Twins.dueFalse(CHECK, "end " + n, Twins::busy, p -> p.end(n));
            Twins.dueFalse(CHECK, "end " + n + " of an empty tape", p -> { }, p -> p.end(n));
        }
    }
}
