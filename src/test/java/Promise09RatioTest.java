/** Promise 9: ratio. */
public final class Promise09RatioTest {
    private static final Check CHECK = new Check("Promise09RatioTest");

    public static void main(String[] args) throws Exception {
        CHECK.runAll(Promise09RatioTest.class);
    }

    private static void dueWide(StickerPress p, int wide) {
        CHECK.due("bars", Bars.bars(p, "1"), 17);
        CHECK.due("stripes", Check.stripes(p), Bars.widths("00001000000111100", 1, wide));
    }

    private static void dueRefused(int r) {
        Twins.dueFalse(CHECK, "ratio " + r + " ahead of any", p -> { }, p -> p.ratio(r));
        Twins.dueFalse(CHECK, "ratio " + r + " behind 2", p -> { p.ratio(3); p.ratio(2); }, p -> p.ratio(r));
        Twins.dueFalse(CHECK, "ratio " + r + " behind 3", Twins::busy, p -> p.ratio(r));
    }

    /** "RATIO: true": 2. */
    static void two() {
        StickerPress p = new StickerPress();
        CHECK.due("ratio", p.ratio(2), true);
        dueWide(p, 2);
    }

    /** "RATIO: true": 3. */
    static void three() {
        StickerPress p = new StickerPress();
        CHECK.due("ratio", p.ratio(3), true);
        dueWide(p, 3);
    }

    /** Told again, it is the latter; the same one again is true, too. */
    static void toldAgain() {
        StickerPress p = new StickerPress();
        p.ratio(3);
        CHECK.due("back to 2", p.ratio(2), true);
        dueWide(p, 2);
        CHECK.due("2 again", p.ratio(2), true);
        dueWide(p, 2);
        CHECK.due("to 3", p.ratio(3), true);
        CHECK.due("3 again", p.ratio(3), true);
        dueWide(p, 3);
    }

    /** "false, and nothing is done, for another than 2, 3": too small. */
    static void tooSmall() {
        dueRefused(1);
        dueRefused(0);
        dueRefused(-1);
        dueRefused(-2);
        dueRefused(-3);
        dueRefused(Integer.MIN_VALUE);
    }

    /** "false, and nothing is done, for another than 2, 3": too large. */
    static void tooLarge() {
        dueRefused(4);
        dueRefused(5);
        dueRefused(256 + 2);
        dueRefused(256 + 3);
        dueRefused(Integer.MAX_VALUE);
    }

    /** Bars that are OUT already stay as they are. */
    static void barsThatAreOutStay() {
        StickerPress p = new StickerPress();
        Bars.bars(p, "1");
        p.ratio(3);
        CHECK.due("stripes", Check.stripes(p), "11112111111222211");
    }
}
