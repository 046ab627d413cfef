/** Promise 7: used. */
public final class Promise07UsedTest {
    private static final Check CHECK = new Check("Promise07UsedTest");
    private static final int NONE = StickerPress.NONE;

    public static void main(String[] args) throws Exception {
        CHECK.runAll(Promise07UsedTest.class);
    }

    /** A press whose latest fit used shortening 4. */
    private static StickerPress usedFour() {
        StickerPress p = new StickerPress();
        Check.shorten(p, 4, "AB", "C");
        Check.fit(p, "AB", 5);
        return p;
    }

    /** "NONE ahead of any": nothing was told, or shortenings alone. */
    static void aheadOfAny() {
        StickerPress p = new StickerPress();
        CHECK.due("new", p.used(), NONE);
        Check.shorten(p, 0, "AB", "C");
        CHECK.due("with a shortening", p.used(), NONE);
    }

    /** "ahead of any" that told a width: fits that told none don't count. */
    static void aheadOfAnyThatToldAWidth() {
        StickerPress p = new StickerPress();
        Check.fit(p, "AB", 9);
        CHECK.due("there was none", p.used(), NONE);
        Check.fit(p, "AB", -1);
        Check.fit(p, "AB", 1000);
        CHECK.due("the width can't be", p.used(), NONE);
        Check.fit(p, "A".repeat(31), 999);
        Check.fit(p, "\u001f", 999);
        CHECK.due("no text", p.used(), NONE);
    }

    /** "the set of SHORTENINGS": the empty one. */
    static void emptySet() {
        StickerPress p = new StickerPress();
        p.fit(0);
        CHECK.due("of an empty text", p.used(), 0);
        StickerPress q = usedFour();
        Check.fit(q, "AB", 10);
        CHECK.due("behind another one", q.used(), 0);
    }

    /** "the set of SHORTENINGS": each single one. */
    static void eachSingleOne() {
        for (int i = 0; i < 6; i++) {
            StickerPress p = new StickerPress();
            Check.shorten(p, i, "AB", "C");
            Check.fit(p, "AB", 5);
            CHECK.due("shortening " + i, p.used(), 1 << i);
        }
    }

    /** "the set of SHORTENINGS": all of them. */
    static void fullSet() {
        StickerPress p = new StickerPress();
        for (int i = 0; i < 6; i++) {
            Check.shorten(p, i, "" + (char) ('a' + i), "");
        }
        Check.fit(p, "fedcba", 0);
        CHECK.due("all six", p.used(), 63);
    }

    /** "Of the latest fit() that told a width": there was none to the latest. */
    static void staysIfThereIsNone() {
        StickerPress p = usedFour();
        Check.fit(p, "XX", 9);
        CHECK.due("used", p.used(), 16);
    }

    /** "Of the latest fit() that told a width": the latest was no text. */
    static void staysIfItIsNoText() {
        StickerPress p = usedFour();
        Check.fit(p, "A".repeat(31), 999);
        CHECK.due("too long", p.used(), 16);
        Check.fit(p, "\u007f", 999);
        CHECK.due("no signs", p.used(), 16);
    }

    /** "Of the latest fit() that told a width": the width of the latest couldn't be. */
    static void staysIfTheWidthCanNotBe() {
        StickerPress p = usedFour();
        Check.fit(p, "XX", -1);
        CHECK.due("too small", p.used(), 16);
        Check.fit(p, "XX", 1000);
        CHECK.due("too large", p.used(), 16);
    }

    /** It is of the fit, not of the shortenings that are told now, nor of bars that are OUT now. */
    static void staysWhateverElseIsTold() {
        StickerPress p = usedFour();
        p.shorten(4, 0);
        CHECK.due("the shortening is gone", p.used(), 16);
        Bars.bars(p, "1");
        p.take();
        p.read();
        CHECK.due("bars and a read", p.used(), 16);
        CHECK.due("asking changes nothing", Twins.difference(Twins::busy, q -> q.used(), q -> { }), "");
    }
}
