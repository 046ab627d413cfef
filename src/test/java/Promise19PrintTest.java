/** Promise 19: print, and the term PRINTED. */
public final class Promise19PrintTest {
    private static final Check CHECK = new Check("Promise19PrintTest");
    private static final int NONE = StickerPress.NONE;

    public static void main(String[] args) throws Exception {
        CHECK.runAll(Promise19PrintTest.class);
    }

    private static void duePrinted(StickerPress p, int s, int... labels) {
        for (int c = 0; c < labels.length; c++) {
            CHECK.due("printed " + s + " " + c, p.printed(s, c), labels[c]);
        }
    }

    /** "SHEET s is PRINTED by BEST: how many LABELS": just those that were planned. */
    static void asPlanned() {
        StickerPress p = new StickerPress();
        p.sheet(0, 0b10110L);
        p.come(4, 2);
        CHECK.due("print", p.print(0), 2);
        duePrinted(p, 0, NONE, 0, 1, NONE, NONE, NONE);
        CHECK.due("none wait", p.look(1), 0);
    }

    /** "how many LABELS": a whole sheet. */
    static void fullSheet() {
        for (int s = 0; s < 3; s++) {
            StickerPress p = new StickerPress();
            p.sheet(s, Layouts.ALL);
            p.come(3, 40);
            CHECK.due("print " + s, p.print(s), 40);
            for (int c = 0; c < 40; c++) {
                CHECK.due("printed " + s + " " + c, p.printed(s, c), c);
            }
            CHECK.due("none are free", p.look(2), 0);
        }
    }

    /** "how many LABELS": none, as none wait; that is no NONE, and nothing changes. */
    static void noLabelsWait() {
        StickerPress p = Layouts.with(5, 5, 0);
        for (int s = 0; s < 3; s++) {
            CHECK.due("print " + s, p.print(s), 0);
            int which = s;
            Twins.Calls ahead = q -> { q.sheet(0, 7); q.sheet(1, 7); };
            CHECK.due("nothing changes", Twins.difference(ahead, q -> q.print(which), q -> { }), "");
        }
    }

    /** "how many LABELS": none, as the sheet is in no heap; nothing changes. */
    static void sheetIsInNoHeap() {
        StickerPress p = Layouts.with(3, 4, 0);
        p.come(0, 4);
        CHECK.due("print 0", p.print(0), 0);
        CHECK.due("print 2", p.print(2), 0);
        CHECK.due("four wait", p.look(1), 4);
        CHECK.due("nothing changes", Twins.difference(Twins::busy, q -> q.print(2), q -> { }), "");
    }

    /** "NONE, and nothing is done: none such": too small. */
    static void numberTooSmall() {
        for (int s : new int[] {-1, -3, Integer.MIN_VALUE}) {
            Twins.dueNone(CHECK, "print " + s, Twins::busy, p -> p.print(s));
            Twins.dueNone(CHECK, "print " + s + " of a new press", p -> { }, p -> p.print(s));
        }
    }

    /** "NONE, and nothing is done: none such": too large. */
    static void numberTooLarge() {
        for (int s : new int[] {3, 4, 256, Integer.MAX_VALUE}) {
            Twins.dueNone(CHECK, "print " + s, Twins::busy, p -> p.print(s));
            Twins.dueNone(CHECK, "print " + s + " of a new press", p -> { }, p -> p.print(s));
        }
    }

    /** "NONE, and nothing is done: .. no LAYOUT": one label too many, or no cells at all. */
    static void noLayout() {
        Twins.Calls oneTooMany = p -> { Twins.busy(p); p.sheet(0, 0); p.sheet(1, 7); p.sheet(2, 1); };
        for (int s = 0; s < 3; s++) {
            int which = s;
            Twins.dueNone(CHECK, "print " + s + " with one too many", oneTooMany, p -> p.print(which));
            Twins.dueNone(CHECK, "print " + s + " without cells", p -> p.come(0, 1), p -> p.print(which));
        }
    }

    /** "NONE, and nothing is done: .. no LAYOUT": though there was one that told a plan. */
    static void layoutIsGone() {
        Twins.Calls ahead = p -> { p.sheet(0, 3); p.come(0, 2); p.plan(0, 0); p.come(0, 1); };
        Twins.dueNone(CHECK, "print", ahead, p -> p.print(0));
    }

    /** "in its CELLS (no more free)". */
    static void cellsAreNoMoreFree() {
        StickerPress p = Layouts.with(5, 0, 0);
        p.come(0, 2);
        p.print(0);
        CHECK.due("free", p.look(2), 3);
        p.come(0, 3);
        CHECK.due("the rest", p.print(0), 3);
        duePrinted(p, 0, 0, 1, 2, 3, 4, NONE);
        CHECK.due("free then", p.look(2), 0);
        p.come(0, 1);
        CHECK.due("no cell is left", p.print(0), NONE);
    }

    /** Each label is printed once: a second print has nothing to do. */
    static void printedAgain() {
        StickerPress p = Layouts.with(5, 0, 0);
        p.come(0, 2);
        p.print(0);
        CHECK.due("again", p.print(0), 0);
        CHECK.due("times", p.label(0, 1), 1);
        CHECK.due("times of the last", p.label(1, 1), 1);
    }

    /** "SHEET s": the other sheets of the heap are not printed. */
    static void otherSheetsWait() {
        StickerPress p = Layouts.with(3, 3, 0);
        p.come(0, 5);
        CHECK.due("sheet 1", p.print(1), 2);
        duePrinted(p, 1, 3, 4, NONE);
        duePrinted(p, 0, NONE, NONE, NONE);
        CHECK.due("three wait", p.look(1), 3);
        CHECK.due("label 2 waits", p.label(2, 2), 1);
        CHECK.due("label 3 does not", p.label(3, 2), 0);
        CHECK.due("sheet 0", p.print(0), 3);
        duePrinted(p, 0, 0, 1, 2);
    }

    /** BEST is sought anew for what is left. */
    static void restHasALayoutOfItsOwn() {
        StickerPress p = Layouts.with(3, 2, 1);
        p.come(0, 4);
        CHECK.due("ahead", Layouts.best(p), "000000|00- 2 2");
        CHECK.due("sheet 0", p.print(0), 3);
        CHECK.due("behind", Layouts.best(p), "000000|-0- 1 1");
        p.sheet(0, 1);
        CHECK.due("with a new sheet", Layouts.best(p), "000000|0-- 1 1");
    }
}
