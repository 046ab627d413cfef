/** Promise 18: plan, and how labels are laid by BEST. */
public final class Promise18PlanTest {
    private static final Check CHECK = new Check("Promise18PlanTest");
    private static final int NONE = StickerPress.NONE;

    public static void main(String[] args) throws Exception {
        CHECK.runAll(Promise18PlanTest.class);
    }

    private static void dueNone(StickerPress p, int s, int c) {
        CHECK.due("plan " + s + " " + c, p.plan(s, c), NONE);
    }

    private static void duePlan(StickerPress p, int s, int... labels) {
        for (int c = 0; c < labels.length; c++) {
            CHECK.due("plan " + s + " " + c, p.plan(s, c), labels[c]);
        }
    }

    private static StickerPress full() {
        StickerPress p = Layouts.with(40, 40, 40);
        for (int g = 0; g < 3; g++) {
            p.come(g, 40);
        }
        return p;
    }

    /** "CELL c of SHEET s": each cell of each sheet. */
    static void eachCell() {
        StickerPress p = full();
        for (int s = 0; s < 3; s++) {
            for (int c = 0; c < 40; c++) {
                CHECK.due("plan " + s + " " + c, p.plan(s, c), 40 * s + c);
            }
        }
    }

    /** "NONE for none": no such sheet, though all cells of the others have labels. */
    static void sheetCanNotBe() {
        StickerPress p = full();
        for (int s : new int[] {-1, 3, 4, 256, Integer.MIN_VALUE, Integer.MAX_VALUE}) {
            dueNone(p, s, 0);
            dueNone(p, s, 39);
        }
        dueNone(p, -1, 40);
        dueNone(p, 3, -1);
    }

    /** "NONE for none": no such cell, though the sheet beside it has labels. */
    static void cellCanNotBe() {
        StickerPress p = full();
        for (int c : new int[] {-1, 40, 41, 79, 80, 256, Integer.MIN_VALUE, Integer.MAX_VALUE}) {
            for (int s = 0; s < 3; s++) {
                dueNone(p, s, c);
            }
        }
    }

    /** "NONE for none": the cell is not free. */
    static void cellIsNotFree() {
        StickerPress p = new StickerPress();
        p.sheet(0, 0b1010010L);
        p.come(0, 3);
        duePlan(p, 0, NONE, 0, NONE, NONE, 1, NONE, 2, NONE);
    }

    /** "NONE for none": the cell is free, but no label is left for it. */
    static void noLabelIsLeft() {
        StickerPress p = Layouts.with(5, 0, 0);
        p.come(0, 3);
        duePlan(p, 0, 0, 1, 2, NONE, NONE);
    }

    /** "NONE for none": no labels wait. */
    static void noLabelsWait() {
        StickerPress p = Layouts.with(5, 5, 5);
        duePlan(p, 0, NONE, NONE);
        p.come(0, 2);
        p.print(0);
        duePlan(p, 0, NONE, NONE, NONE);
    }

    /** "NONE for none": the sheet is in no heap. */
    static void sheetIsInNoHeap() {
        StickerPress p = Layouts.with(3, 4, 0);
        p.come(0, 4);
        duePlan(p, 0, NONE, NONE, NONE);
        duePlan(p, 1, 0, 1, 2, 3);
    }

    /** "NONE for none": there is no layout, though there was one. */
    static void noLayout() {
        StickerPress p = Layouts.with(2, 0, 0);
        p.come(0, 2);
        duePlan(p, 0, 0, 1);
        p.come(0, 1);
        duePlan(p, 0, NONE, NONE, NONE);
    }

    /** "GROUPS by number": though their labels came the other way round. */
    static void groupsByNumber() {
        StickerPress p = Layouts.with(6, 0, 0);
        p.come(5, 2);
        p.come(3, 2);
        p.come(0, 2);
        duePlan(p, 0, 4, 5, 2, 3, 0, 1);
    }

    /** "a GROUP's LABELS that wait are laid by their numbers": though others came between. */
    static void labelsByNumber() {
        StickerPress p = Layouts.with(5, 0, 0);
        p.come(1, 1);
        p.come(0, 1);
        p.come(1, 1);
        p.come(0, 1);
        p.come(1, 1);
        duePlan(p, 0, 1, 3, 0, 2, 4);
    }

    /** "on the SHEETS of their HEAP by number": a group goes on on the next sheet of its heap, past another heap. */
    static void sheetsOfTheHeapByNumber() {
        StickerPress p = Layouts.with(3, 5, 3);
        p.come(0, 6);
        p.come(1, 5);
        CHECK.due("best", Layouts.best(p), "010000|010 3 3");
        duePlan(p, 0, 0, 1, 2, NONE);
        duePlan(p, 1, 6, 7, 8, 9, 10, NONE);
        duePlan(p, 2, 3, 4, 5, NONE);
    }

    /** "in free CELLS by number": over the end of a sheet, with cells that are not free at both ends. */
    static void freeCellsByNumber() {
        StickerPress p = new StickerPress();
        p.sheet(0, 1L << 39);
        p.sheet(1, 0b1010);
        p.come(2, 3);
        CHECK.due("cell 39", p.plan(0, 39), 0);
        duePlan(p, 1, NONE, 1, NONE, 2, NONE);
    }

    /** "that would be printed": by what is told now. */
    static void keepsUp() {
        StickerPress p = Layouts.with(2, 3, 0);
        p.come(0, 2);
        duePlan(p, 0, 0, 1);
        p.come(0, 1);
        duePlan(p, 0, NONE, NONE);
        duePlan(p, 1, 0, 1, 2);
        p.sheet(0, 7);
        duePlan(p, 0, 0, 1, 2);
        p.print(0);
        duePlan(p, 0, NONE, NONE, NONE);
        p.spoil(0, 1);
        duePlan(p, 1, 1, NONE, NONE);
    }

    /** "would be": asking prints nothing, and changes nothing. */
    static void askingChangesNothing() {
        Twins.Calls asks = p -> {
            for (int c = -1; c <= 40; c++) {
                p.plan(1, c);
            }
        };
        CHECK.due("busy", Twins.difference(Twins::busy, asks, p -> { }), "");
    }
}
