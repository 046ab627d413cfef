/** Promise 14: sheet. */
public final class Promise14SheetTest {
    private static final Check CHECK = new Check("Promise14SheetTest");
    private static final int NONE = StickerPress.NONE;

    public static void main(String[] args) throws Exception {
        CHECK.runAll(Promise14SheetTest.class);
    }

    private static void dueRefused(int s, long free) {
        String call = "sheet " + s + " " + free;
        Twins.dueFalse(CHECK, call, p -> { }, p -> p.sheet(s, free));
        Twins.dueFalse(CHECK, call + " of a busy press", Twins::busy, p -> p.sheet(s, free));
    }

    /** Sheet 0 with labels 0, 1 in cells 0, 1, of which 1 was spoiled. */
    private static StickerPress printedAndSpoiled() {
        StickerPress p = new StickerPress();
        p.sheet(0, 3);
        p.come(2, 2);
        p.print(0);
        p.spoil(0, 1);
        return p;
    }

    /** "SHEET s": each of 0 .. 2, and that one alone. */
    static void eachSheet() {
        for (int s = 0; s < 3; s++) {
            StickerPress p = new StickerPress();
            CHECK.due("sheet " + s, p.sheet(s, 5), true);
            CHECK.due("two are free", p.look(2), 2);
            p.come(0, 2);
            for (int k = 0; k < 3; k++) {
                CHECK.due("cell 0 of " + k, p.plan(k, 0), k == s ? 0 : NONE);
                CHECK.due("cell 2 of " + k, p.plan(k, 2), k == s ? 1 : NONE);
            }
        }
    }

    /** "its free CELLS a set (bits 0 .. 39)": each bit is that cell. */
    static void eachCell() {
        for (int c = 0; c < 40; c++) {
            StickerPress p = new StickerPress();
            CHECK.due("sheet with cell " + c, p.sheet(1, 1L << c), true);
            CHECK.due("one is free", p.look(2), 1);
            p.come(0, 1);
            for (int k = 0; k < 40; k++) {
                CHECK.due("cell " + k, p.plan(1, k), k == c ? 0 : NONE);
            }
        }
    }

    /** "its free CELLS a set": the empty one. */
    static void emptySet() {
        StickerPress p = new StickerPress();
        CHECK.due("sheet", p.sheet(0, 0), true);
        CHECK.due("none are free", p.look(2), 0);
        p.sheet(0, 7);
        CHECK.due("sheet again", p.sheet(0, 0), true);
        CHECK.due("none are free any more", p.look(2), 0);
    }

    /** "its free CELLS a set": all forty. */
    static void fullSet() {
        StickerPress p = new StickerPress();
        for (int s = 0; s < 3; s++) {
            CHECK.due("sheet " + s, p.sheet(s, 0xFFFFFFFFFFL), true);
            CHECK.due("free", p.look(2), 40 * (s + 1));
        }
    }

    /** "false, and nothing is done, if one can't be": s is too small. */
    static void numberTooSmall() {
        dueRefused(-1, 1);
        dueRefused(-3, 1);
        dueRefused(Integer.MIN_VALUE, 1);
    }

    /** "false, and nothing is done, if one can't be": s is too large. */
    static void numberTooLarge() {
        dueRefused(3, 1);
        dueRefused(4, 1);
        dueRefused(256, 1);
        dueRefused(Integer.MAX_VALUE, 1);
    }

    /** "false, and nothing is done, if one can't be": a bit above 39, the highest of all among them. */
    static void bitTooHigh() {
        for (int bit = 40; bit < 64; bit++) {
            dueRefused(0, 1L << bit);
            dueRefused(1, (1L << bit) | 1);
        }
    }

    /** "false, and nothing is done, if one can't be": sets with many such bits. */
    static void setTooLarge() {
        for (long free : new long[] {-1, -2, Long.MIN_VALUE, Long.MAX_VALUE, Layouts.ALL + 1, ~Layouts.ALL}) {
            dueRefused(0, free);
            dueRefused(2, free);
        }
    }

    /** "false, and nothing is done, if one can't be": neither can be. */
    static void numberAndSetCanNotBe() {
        dueRefused(3, -1);
        dueRefused(-1, 1L << 40);
    }

    /** "SHEET s is a new one": what was free on the one ahead is not any more. */
    static void freeCellsAheadAreGone() {
        StickerPress p = new StickerPress();
        p.sheet(0, 0b1111);
        p.sheet(0, 0b110000);
        CHECK.due("two are free", p.look(2), 2);
        p.come(0, 1);
        CHECK.due("cell 0", p.plan(0, 0), NONE);
        CHECK.due("cell 4", p.plan(0, 4), 0);
    }

    /** "SHEET s is a new one": nothing is printed on it, and cells that were printed may be free. */
    static void nothingIsPrintedOnIt() {
        StickerPress p = printedAndSpoiled();
        CHECK.due("sheet", p.sheet(0, 3), true);
        CHECK.due("cell 0", p.printed(0, 0), NONE);
        CHECK.due("cell 1", p.printed(0, 1), NONE);
        CHECK.due("both are free", p.look(2), 2);
        CHECK.due("what waits is laid there", p.plan(0, 0), 1);
    }

    /** "(What was printed on the one ahead can't be SPOILED any more.)": nothing is done by it. */
    static void aheadCanNotBeSpoiledAnyMore() {
        Twins.Calls ahead = p -> { Twins.busy(p); p.sheet(0, 0b11); };
        Twins.dueNone(CHECK, "spoil of what was good", ahead, p -> p.spoil(0, 1));
        Twins.dueNone(CHECK, "spoil of what was spoiled", ahead, p -> p.spoil(0, 2));
        Twins.dueNone(CHECK, "spoil of a free cell", ahead, p -> p.spoil(0, 0));
    }

    /** A new sheet is not spoiled: what is printed in a cell that was can be. */
    static void newOneIsNotSpoiled() {
        StickerPress p = printedAndSpoiled();
        p.sheet(0, 2);
        CHECK.due("print", p.print(0), 1);
        CHECK.due("spoil", p.spoil(0, 1), 1);
    }

    /** The labels stay as they were: printed ones printed, spoiled ones waiting. */
    static void labelsStay() {
        StickerPress p = printedAndSpoiled();
        p.sheet(0, 0);
        CHECK.due("came", p.look(0), 2);
        CHECK.due("wait", p.look(1), 1);
        CHECK.due("label 0 was printed", p.label(0, 1), 1);
        CHECK.due("label 0 does not wait", p.label(0, 2), 0);
        CHECK.due("label 1 was printed", p.label(1, 1), 1);
        CHECK.due("label 1 waits", p.label(1, 2), 1);
    }

    /** The other sheets stay as they were. */
    static void otherSheetsStay() {
        StickerPress p = printedAndSpoiled();
        p.sheet(1, 7);
        p.sheet(2, 1);
        CHECK.due("cell 0", p.printed(0, 0), 0);
        CHECK.due("cell 1", p.printed(0, 1), 1);
        CHECK.due("free", p.look(2), 4);
        CHECK.due("spoiled already", p.spoil(0, 1), NONE);
        CHECK.due("good still", p.spoil(0, 0), 0);
    }
}
