/** Promise 17: heap, and the term BEST. */
public final class Promise17HeapTest {
    private static final Check CHECK = new Check("Promise17HeapTest");
    private static final int NONE = StickerPress.NONE;

    public static void main(String[] args) throws Exception {
        CHECK.runAll(Promise17HeapTest.class);
    }

    private static StickerPress laid() {
        StickerPress p = Layouts.with(3, 4, 5);
        p.come(0, 3);
        p.come(3, 4);
        p.come(5, 5);
        return p;
    }

    private static void dueNone(StickerPress p, int g, int what) {
        CHECK.due("heap " + g + " " + what, p.heap(g, what), NONE);
    }

    /** "The HEAP of GROUP g (what 0), of SHEET g (1) in BEST". */
    static void ofGroupsAndSheets() {
        CHECK.due("best", Layouts.best(laid()), "000102|012 3 3");
    }

    /** "one can't be": no such group. */
    static void groupCanNotBe() {
        StickerPress p = laid();
        for (int g : new int[] {-1, 6, 7, 256, Integer.MIN_VALUE, Integer.MAX_VALUE}) {
            dueNone(p, g, 0);
        }
        CHECK.due("the least", p.heap(0, 0), 0);
        CHECK.due("the greatest", p.heap(5, 0), 2);
    }

    /** "one can't be": no such sheet, though there is such a group. */
    static void sheetCanNotBe() {
        StickerPress p = laid();
        for (int s : new int[] {-1, 3, 4, 5, 6, 256, Integer.MIN_VALUE, Integer.MAX_VALUE}) {
            dueNone(p, s, 1);
        }
        CHECK.due("the least", p.heap(0, 1), 0);
        CHECK.due("the greatest", p.heap(2, 1), 2);
    }

    /** "one can't be": no such what. */
    static void whatCanNotBe() {
        StickerPress p = laid();
        for (int what : new int[] {-1, 2, 3, 256, 257, Integer.MIN_VALUE, Integer.MAX_VALUE}) {
            for (int g = 0; g < 6; g++) {
                dueNone(p, g, what);
            }
        }
    }

    /** "NONE .. if there is no LAYOUT": of groups, with labels and without, and of sheets. */
    static void noLayout() {
        StickerPress p = Layouts.with(3, 3, 3);
        p.come(2, 10);
        CHECK.due("best", Layouts.best(p), "------|--- -1 -1");
    }

    /** "NONE for none": a sheet that is in no heap. */
    static void sheetInNoHeap() {
        StickerPress p = Layouts.with(3, 4, 5);
        p.come(1, 4);
        CHECK.due("best", Layouts.best(p), "000000|-0- 1 1");
    }

    /** "a GROUP without labels has 0": also one ahead of others, and without any labels. */
    static void groupWithoutLabels() {
        CHECK.due("no labels", Layouts.best(Layouts.with(3, 4, 5)), "000000|--- 0 0");
        StickerPress p = Layouts.with(3, 4, 0);
        p.come(2, 3);
        p.come(4, 4);
        CHECK.due("two groups", Layouts.best(p), "000010|01- 2 2");
    }

    /** "the one with the fewest PIECES": though it has more sheets, and later heaps. */
    static void fewestPiecesFirst() {
        StickerPress p = Layouts.with(4, 4, 3);
        p.come(0, 4);
        p.come(1, 4);
        // Both in heap 0 on sheets 0 and 1 would be 3 pieces.
        CHECK.due("two heaps", Layouts.best(p), "010000|01- 2 2");
        StickerPress q = Layouts.with(7, 7, 7);
        q.come(0, 7);
        q.come(1, 4);
        q.come(2, 4);
        // On three sheets each is whole; on sheets 0 and 1 with 14 cells 15 don't go.
        CHECK.due("three heaps", Layouts.best(q), "012000|012 3 3");
        StickerPress r = Layouts.with(8, 7, 7);
        r.come(0, 5);
        r.come(1, 5);
        r.come(2, 5);
        // Two sheets would do, but one group would be torn.
        CHECK.due("three sheets rather than a torn one", Layouts.best(r), "012000|012 3 3");
    }

    /** "of these with the fewest SHEETS in HEAPS": though the heaps of groups would be earlier. */
    static void fewestSheetsNext() {
        StickerPress p = Layouts.with(2, 2, 4);
        p.come(0, 2);
        p.come(1, 2);
        CHECK.due("one sheet and not two", Layouts.best(p), "000000|--0 2 1");
        StickerPress q = Layouts.with(5, 5, 9);
        q.come(0, 5);
        q.come(1, 4);
        q.come(2, 5);
        CHECK.due("two sheets and not three", Layouts.best(q), "001000|1-0 3 2");
    }

    /** "the first by the HEAPS of GROUPS 0, 1 .. (the lesser first": ahead of the sheets. */
    static void groupsAheadOfSheets() {
        StickerPress p = Layouts.with(5, 7, 0);
        p.come(1, 2);
        p.come(3, 5);
        p.come(5, 5);
        CHECK.due("groups 1 and 3 in heap 0", Layouts.best(p), "000001|10- 3 2");
        StickerPress q = Layouts.with(6, 6, 0);
        q.come(0, 3);
        q.come(1, 3);
        q.come(2, 3);
        q.come(3, 3);
        CHECK.due("groups 0 and 1 in heap 0", Layouts.best(q), "001100|01- 4 2");
    }

    /** "by the HEAPS of GROUPS 0, 1 ..": the first group whose heaps differ decides, whichever two they are. */
    static void firstGroupThatDiffers() {
        for (int a = 1; a < 5; a++) {
            for (int b = a + 1; b < 6; b++) {
                StickerPress p = Layouts.with(5, 6, 0);
                p.come(0, 2);
                p.come(a, 4);
                p.come(b, 3);
                // Sheet 0 in heap 0 would do as well, with groups 0 and b, and a in heap 1.
                StringBuilder heaps = new StringBuilder("000000");
                heaps.setCharAt(b, '1');
                CHECK.due("groups " + a + " and " + b, Layouts.best(p), heaps + "|10- 3 2");
            }
        }
        StickerPress q = Layouts.with(6, 5, 0);
        q.come(0, 3);
        q.come(1, 2);
        q.come(2, 3);
        q.come(3, 3);
        CHECK.due("0011 ahead of 0101", Layouts.best(q), "001100|10- 4 2");
    }

    /** "of all LAYOUTS": the lesser heaps of the first groups may leave no room for the last. */
    static void lesserHeapsMayNotDo() {
        StickerPress p = Layouts.with(6, 6, 0);
        p.come(0, 3);
        p.come(1, 2);
        p.come(2, 4);
        p.come(3, 3);
        CHECK.due("3 by 3 and 2 by 4", Layouts.best(p), "011000|01- 4 2");
        StickerPress q = Layouts.with(9, 9, 9);
        q.come(0, 3);
        q.come(1, 4);
        q.come(2, 5);
        q.come(3, 5);
        q.come(4, 4);
        q.come(5, 6);
        CHECK.due("three by nine", Layouts.best(q), "011220|012 6 3");
    }

    /** "in each HEAP labels are as many as free CELLS": a single label needs a cell, too. */
    static void singleLabels() {
        StickerPress p = Layouts.with(1, 1, 1);
        p.come(0, 1);
        p.come(3, 1);
        CHECK.due("two", Layouts.best(p), "000100|01- 2 2");
        p.come(5, 1);
        CHECK.due("three", Layouts.best(p), "000102|012 3 3");
        p.come(4, 1);
        CHECK.due("four", Layouts.best(p), "------|--- -1 -1");
    }

    /** "of GROUP g .. in BEST": that of what is told now, whichever is asked first. */
    static void askedFirst() {
        StickerPress p = Layouts.with(3, 4, 0);
        p.come(0, 3);
        CHECK.due("sheet 0", p.heap(0, 1), 0);
        p.come(1, 4);
        CHECK.due("group 1 behind come", p.heap(1, 0), 1);
        p.sheet(2, Layouts.first(7));
        CHECK.due("sheet 0 behind sheet", p.heap(0, 1), NONE);
        p.print(2);
        CHECK.due("sheet 2 behind print", p.heap(2, 1), NONE);
        p.spoil(2, 0);
        CHECK.due("sheet 0 behind spoil", p.heap(0, 1), 0);
    }

    /** "then of SHEETS 0, 1, 2 (the lesser first". */
    static void lesserSheetsFirst() {
        StickerPress p = Layouts.with(5, 5, 5);
        p.come(0, 5);
        p.come(1, 5);
        CHECK.due("sheet 0 in heap 0", Layouts.best(p), "010000|01- 2 2");
        StickerPress q = Layouts.with(5, 5, 5);
        q.come(0, 5);
        q.come(1, 10);
        CHECK.due("sheet 0 for group 0", Layouts.best(q), "010000|011 3 3");
        StickerPress r = Layouts.with(5, 5, 5);
        r.come(0, 10);
        r.come(1, 5);
        CHECK.due("sheets 0 and 1 for group 0", Layouts.best(r), "010000|001 3 3");
    }

    /** "none last". */
    static void noneLast() {
        StickerPress p = Layouts.with(9, 9, 9);
        p.come(4, 9);
        CHECK.due("sheet 0 of three", Layouts.best(p), "000000|0-- 1 1");
        p.sheet(0, Layouts.first(8));
        CHECK.due("sheet 1 of two", Layouts.best(p), "000000|-0- 1 1");
        p.sheet(1, 0);
        CHECK.due("sheet 2 alone", Layouts.best(p), "000000|--0 1 1");
    }

    /** A sheet without free cells is in no heap. */
    static void fullSheet() {
        StickerPress p = Layouts.with(0, 3, 0);
        p.come(0, 3);
        CHECK.due("best", Layouts.best(p), "000000|-0- 1 1");
    }

    /** All six groups on three sheets. */
    static void allGroups() {
        StickerPress p = Layouts.with(40, 40, 40);
        for (int g = 0; g < 6; g++) {
            p.come(g, 20);
        }
        CHECK.due("two by two", Layouts.best(p), "001122|012 6 3");
    }

    static void askingChangesNothing() {
        Twins.Calls asks = p -> {
            for (int g = -1; g <= 6; g++) {
                p.heap(g, 0);
                p.heap(g, 1);
                p.heap(g, 2);
            }
        };
        CHECK.due("busy", Twins.difference(Twins::busy, asks, p -> { }), "");
    }
}
