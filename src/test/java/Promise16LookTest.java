/** Promise 16: look, and the terms LAYOUT and PIECES. */
public final class Promise16LookTest {
    private static final Check CHECK = new Check("Promise16LookTest");
    private static final int NONE = StickerPress.NONE;

    public static void main(String[] args) throws Exception {
        CHECK.runAll(Promise16LookTest.class);
    }

    private static void dueLook(StickerPress p, String what, int... due) {
        for (int i = 0; i < due.length; i++) {
            CHECK.due(what + ": look " + i, p.look(i), due[i]);
        }
    }

    /** "NONE for another what": too small. */
    static void whatTooSmall() {
        StickerPress p = Layouts.with(5, 5, 5);
        p.come(0, 3);
        for (int what : new int[] {-1, -5, -256, Integer.MIN_VALUE}) {
            CHECK.due("look " + what, p.look(what), NONE);
        }
    }

    /** "NONE for another what": too large. */
    static void whatTooLarge() {
        StickerPress p = Layouts.with(5, 5, 5);
        p.come(0, 3);
        for (int what : new int[] {5, 6, 256, 257, Integer.MAX_VALUE}) {
            CHECK.due("look " + what, p.look(what), NONE);
        }
    }

    /** "3 PIECES of BEST (0 without labels that wait)": with free cells and without. */
    static void noLabelsWait() {
        dueLook(new StickerPress(), "new", 0, 0, 0, 0, 0);
        dueLook(Layouts.with(5, 10, 40), "free cells", 0, 0, 55, 0, 0);
    }

    /** "(0 without labels that wait)": all of them were printed, be the sheets full then. */
    static void allWerePrinted() {
        StickerPress p = Layouts.with(3, 0, 0);
        p.come(1, 3);
        p.print(0);
        dueLook(p, "printed", 3, 0, 0, 0, 0);
    }

    /** "What 0 LABELS that came, 1 that wait, 2 free CELLS": by come, print and spoil. */
    static void counts() {
        StickerPress p = Layouts.with(5, 10, 0);
        p.come(1, 4);
        p.come(2, 3);
        dueLook(p, "came", 7, 7, 15, 2, 1);
        p.print(1);
        dueLook(p, "printed", 7, 0, 8, 0, 0);
        p.spoil(1, 0);
        dueLook(p, "spoiled", 7, 1, 8, 1, 1);
        p.sheet(0, 0);
        dueLook(p, "a new sheet", 7, 1, 3, 1, 1);
    }

    /** "NONE (3, 4, too, if there is no LAYOUT)": no cells at all; 0, 1, 2 are told still. */
    static void noCells() {
        StickerPress p = new StickerPress();
        p.come(0, 1);
        dueLook(p, "no cells", 1, 1, 0, NONE, NONE);
    }

    /** "labels are as many as free CELLS of its SHEETS at most": just as many, and one more. */
    static void justAsManyAsCells() {
        StickerPress p = Layouts.with(3, 0, 0);
        p.come(4, 3);
        dueLook(p, "three", 3, 3, 3, 1, 1);
        p.come(4, 1);
        dueLook(p, "four", 4, 4, 3, NONE, NONE);
        p.sheet(2, 1);
        dueLook(p, "a cell more", 4, 4, 4, 2, 2);
    }

    /** "as many as free CELLS": all cells of all sheets, and one label more. */
    static void allCells() {
        StickerPress p = Layouts.with(40, 40, 40);
        p.come(0, 40);
        p.come(1, 40);
        p.come(2, 40);
        dueLook(p, "full", 120, 120, 120, 3, 3);
        p.come(3, 1);
        dueLook(p, "one more", 121, 121, 120, NONE, NONE);
    }

    /** "as many as free CELLS": a group is in one heap, so two sheets must be one heap if none has room for it. */
    static void groupIsInOneHeap() {
        StickerPress p = Layouts.with(3, 3, 0);
        p.come(0, 2);
        p.come(1, 2);
        dueLook(p, "each on its own sheet", 4, 4, 6, 2, 2);
        p.come(2, 2);
        dueLook(p, "one heap of both", 6, 6, 6, 4, 2);
    }

    /** There was a layout, and there is none any more: nothing of it is told. */
    static void layoutIsGone() {
        StickerPress p = Layouts.with(3, 3, 3);
        p.come(2, 9);
        dueLook(p, "nine", 9, 9, 9, 3, 3);
        p.sheet(1, 3);
        dueLook(p, "a cell less", 9, 9, 8, NONE, NONE);
    }

    /** "3 PIECES of BEST .. 4 SHEETS in its HEAPS": each asked first, so that BEST is that of what is told now. */
    static void eachAskedFirst() {
        StickerPress p = Layouts.with(3, 3, 3);
        p.come(2, 4);
        CHECK.due("sheets of four", p.look(4), 2);
        p.come(2, 3);
        CHECK.due("pieces of seven", p.look(3), 3);
        p.sheet(0, Layouts.first(7));
        CHECK.due("sheets behind sheet", p.look(4), 1);
        p.print(0);
        CHECK.due("sheets behind print", p.look(4), 0);
        p.spoil(0, 0);
        CHECK.due("sheets behind spoil", p.look(4), 1);
        p.come(3, 1);
        CHECK.due("pieces behind come", p.look(3), 2);
        p.print(1);
        CHECK.due("pieces behind print", p.look(3), 0);
        p.spoil(1, 1);
        CHECK.due("pieces behind spoil", p.look(3), 1);
        p.come(0, 40);
        CHECK.due("sheets of too many", p.look(4), NONE);
    }

    /** "PIECES: these GROUPS, and SHEETS in HEAPS, less the HEAPS that have a SHEET": the most there can be. */
    static void mostPieces() {
        StickerPress p = Layouts.with(2, 2, 2);
        for (int g = 0; g < 6; g++) {
            p.come(g, 1);
        }
        dueLook(p, "two on each sheet", 6, 6, 6, 6, 3);
        CHECK.due("two by two", Layouts.best(p), "001122|012 6 3");
        StickerPress q = Layouts.with(2, 2, 2);
        q.come(0, 3);
        q.come(1, 3);
        dueLook(q, "both are torn", 6, 6, 6, 4, 3);
        StickerPress r = Layouts.with(40, 1, 1);
        for (int g = 0; g < 6; g++) {
            r.come(g, 7);
        }
        dueLook(r, "six groups and three sheets in one heap", 42, 42, 42, 8, 3);
    }

    static void askingChangesNothing() {
        Twins.Calls asks = p -> {
            for (int what = -1; what <= 5; what++) {
                p.look(what);
            }
        };
        CHECK.due("busy", Twins.difference(Twins::busy, asks, p -> { }), "");
    }
}
