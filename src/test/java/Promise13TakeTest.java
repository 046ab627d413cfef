/** Promise 13: take. */
public final class Promise13TakeTest {
    private static final Check CHECK = new Check("Promise13TakeTest");

    public static void main(String[] args) throws Exception {
        CHECK.runAll(Promise13TakeTest.class);
    }

    private static void feedFull(StickerPress p) {
        for (int i = 0; i < 10; i++) {
            p.feed(0x30303030, 0x30303030, 0x30303030, 0x30303030, 0x30303030);
        }
    }

    /** "OUT becomes the TAPE: how many". */
    static void outBecomesTheTape() {
        StickerPress p = new StickerPress();
        Check.fit(p, "ABC", 99);
        CHECK.due("take", p.take(), 3);
        CHECK.due("not four", p.end(4), false);
        CHECK.due("three", p.end(3), true);
        CHECK.due("fit", p.fit(99), 15);
        CHECK.due("bytes", Check.out(p), "ABC");
    }

    /** "OUT becomes the TAPE": what was on it is gone, be it longer. */
    static void tapeAheadIsGone() {
        StickerPress p = new StickerPress();
        Check.fit(p, "ABC", 99);
        Check.tape(p, "LONGER THAN THAT");
        CHECK.due("take", p.take(), 3);
        CHECK.due("not four", p.end(4), false);
        p.fit(99);
        CHECK.due("bytes", Check.out(p), "ABC");
    }

    /** "OUT becomes the TAPE": also in place of a full one. */
    static void fullTape() {
        StickerPress p = new StickerPress();
        Bars.bars(p, "12345678901");
        feedFull(p);
        CHECK.due("take", p.take(), 67);
        CHECK.due("not 68", p.end(68), false);
        CHECK.due("read", p.read(), 12);
    }

    /** "how many": OUT is empty, so the tape is. */
    static void emptyOut() {
        StickerPress p = new StickerPress();
        CHECK.due("new", p.take(), 0);
        feedFull(p);
        CHECK.due("with a full tape", p.take(), 0);
        CHECK.due("it is empty", p.end(1), false);
        Check.fit(p, "ABC", 99);
        Check.fit(p, "ABC", 1);
        Check.tape(p, "ABC");
        CHECK.due("behind no fit", p.take(), 0);
        CHECK.due("it is empty again", p.end(1), false);
    }

    /** "(its first 200 bytes)": the longest OUT has 67, and all of them come. */
    static void longestOut() {
        StickerPress p = new StickerPress();
        p.ratio(3);
        Bars.bars(p, "99999999999");
        CHECK.due("take", p.take(), 67);
        CHECK.due("all are there", p.end(67), true);
        CHECK.due("read", p.read(), 12);
        CHECK.due("digits", Check.out(p), "999999999993");
    }

    /** OUT stays what it is, so it can be taken twice. */
    static void outStays() {
        Twins.Calls ahead = p -> { Twins.busy(p); p.take(); };
        CHECK.due("once more", Twins.difference(ahead, p -> p.take(), p -> { }), "");
        StickerPress p = new StickerPress();
        Check.fit(p, "ABC", 99);
        p.take();
        CHECK.due("out", Check.out(p), "ABC");
        p.end(1);
        CHECK.due("out behind end", Check.out(p), "ABC");
        p.feed(0, 0, 0, 0, 0);
        CHECK.due("out behind feed", Check.out(p), "ABC");
    }

    /** Nothing else is done: all but the tape is as it was. */
    static void nothingElse() {
        CHECK.due("busy", Twins.difference(Twins::busy, p -> { p.take(); p.end(0); }, p -> p.end(0)), "");
    }
}
