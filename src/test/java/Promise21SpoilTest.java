/** Promise 21: spoil, and the term SPOILED. */
public final class Promise21SpoilTest {
    private static final Check CHECK = new Check("Promise21SpoilTest");
    private static final int NONE = StickerPress.NONE;

    public static void main(String[] args) throws Exception {
        CHECK.runAll(Promise21SpoilTest.class);
    }

    private static void dueRefused(String what, Twins.Calls ahead, int s, int c) {
        Twins.dueNone(CHECK, "spoil " + s + " " + c + " " + what, ahead, p -> p.spoil(s, c));
    }

    /** All cells of all sheets are printed. */
    private static void full(StickerPress p) {
        for (int s = 0; s < 3; s++) {
            p.sheet(s, Layouts.ALL);
            p.come(s, 40);
        }
        for (int s = 0; s < 3; s++) {
            p.print(s);
        }
    }

    /** "That one is SPOILED: its number": each cell of each sheet. */
    static void eachCell() {
        StickerPress p = new StickerPress();
        full(p);
        for (int s = 0; s < 3; s++) {
            for (int c = 0; c < 40; c++) {
                CHECK.due("spoil " + s + " " + c, p.spoil(s, c), 40 * s + c);
                CHECK.due("wait", p.look(1), 40 * s + c + 1);
            }
        }
    }

    /** "NONE, and nothing is done: there is none": no such sheet. */
    static void sheetCanNotBe() {
        for (int s : new int[] {-1, 3, 4, 256, Integer.MIN_VALUE, Integer.MAX_VALUE}) {
            dueRefused("of full sheets", Promise21SpoilTest::full, s, 0);
            dueRefused("of full sheets", Promise21SpoilTest::full, s, 39);
        }
        dueRefused("of full sheets", Promise21SpoilTest::full, -1, 40);
        dueRefused("of full sheets", Promise21SpoilTest::full, 3, -1);
    }

    /** "NONE, and nothing is done: there is none": no such cell, though the sheet beside it has labels. */
    static void cellCanNotBe() {
        for (int c : new int[] {-1, 40, 41, 79, 80, 256, Integer.MIN_VALUE, Integer.MAX_VALUE}) {
            for (int s = 0; s < 3; s++) {
                dueRefused("of full sheets", Promise21SpoilTest::full, s, c);
            }
        }
    }

    /** "there is none": a free cell, one that is planned, one that never was free, a new press. */
    static void nothingIsPrintedThere() {
        Twins.Calls ahead = p -> { p.sheet(0, 0b1011); p.come(0, 1); p.print(0); p.come(0, 1); };
        dueRefused("that is planned", ahead, 0, 1);
        dueRefused("that never was free", ahead, 0, 2);
        dueRefused("that is free", ahead, 0, 3);
        dueRefused("of another sheet", ahead, 1, 0);
        dueRefused("of a new press", p -> { }, 0, 0);
    }

    /** "NONE, and nothing is done: .. it was already": while it waits. */
    static void alreadyAndItWaits() {
        dueRefused("again", Twins::busy, 0, 2);
        dueRefused("again, of full sheets", p -> { full(p); p.spoil(2, 39); }, 2, 39);
    }

    /** "NONE, and nothing is done: .. it was already": behind its next print, which is another one. */
    static void alreadyAndItWasPrintedAgain() {
        Twins.Calls ahead = p -> {
            p.sheet(0, 1);
            p.sheet(1, 1);
            p.come(0, 1);
            p.print(0);
            p.spoil(0, 0);
            p.print(1);
        };
        dueRefused("that was spoiled", ahead, 0, 0);
        StickerPress p = new StickerPress();
        ahead.on(p);
        CHECK.due("the next print", p.spoil(1, 0), 0);
        CHECK.due("it waits", p.label(0, 2), 1);
    }

    /** "NONE, and nothing is done: .. its GROUP has 40 that wait". */
    static void groupHasForty() {
        Twins.Calls ahead = p -> { p.sheet(0, 3); p.come(2, 2); p.print(0); p.come(2, 40); };
        dueRefused("with 40", ahead, 0, 0);
        dueRefused("with 40", ahead, 0, 1);
    }

    /** "its GROUP has 40 that wait": with 39 it can be, and then the next can't; other groups don't count. */
    static void groupHasThirtyNine() {
        Twins.Calls ahead = p -> { p.sheet(0, 3); p.come(2, 2); p.print(0); p.come(1, 40); p.come(2, 39); };
        StickerPress p = new StickerPress();
        ahead.on(p);
        CHECK.due("the fortieth", p.spoil(0, 1), 1);
        CHECK.due("wait", p.look(1), 80);
        dueRefused("with 40, a spoiled one among them", q -> { ahead.on(q); q.spoil(0, 1); }, 0, 0);
    }

    /** What was refused for the 40 was not spoiled: it can be when they are printed. */
    static void refusedForFortyIsGoodStill() {
        StickerPress p = new StickerPress();
        p.sheet(0, 1);
        p.come(2, 1);
        p.print(0);
        p.come(2, 40);
        p.spoil(0, 0);
        CHECK.due("label 0 does not wait", p.label(0, 2), 0);
        p.sheet(1, Layouts.ALL);
        p.print(1);
        CHECK.due("spoil", p.spoil(0, 0), 0);
    }

    /** "it waits in its GROUP anew, with the same number": and none comes. */
    static void waitsAnewWithItsNumber() {
        StickerPress p = Layouts.with(4, 0, 0);
        p.come(3, 2);
        p.print(0);
        CHECK.due("spoil", p.spoil(0, 1), 1);
        CHECK.due("it waits", p.label(1, 2), 1);
        CHECK.due("its group", p.label(1, 0), 3);
        CHECK.due("the other does not", p.label(0, 2), 0);
        CHECK.due("came", p.look(0), 2);
        CHECK.due("wait", p.look(1), 1);
        CHECK.due("printed once", p.label(1, 1), 1);
        CHECK.due("planned", p.plan(0, 2), 1);
        CHECK.due("printed", p.print(0), 1);
        CHECK.due("printed twice", p.label(1, 1), 2);
    }

    /** Its cell is not free by that. */
    static void cellIsNotFree() {
        StickerPress p = Layouts.with(1, 0, 0);
        p.come(0, 1);
        p.print(0);
        p.spoil(0, 0);
        CHECK.due("free", p.look(2), 0);
        CHECK.due("no layout", p.print(0), NONE);
        CHECK.due("no plan", p.plan(0, 0), NONE);
    }

    /** "(a GROUP's LABELS that wait are laid by their numbers)": however they were spoiled. */
    static void laidByNumber() {
        StickerPress p = Layouts.with(3, 0, 0);
        p.come(1, 3);
        p.print(0);
        p.come(0, 1);
        p.come(1, 2);
        p.spoil(0, 2);
        p.spoil(0, 0);
        p.sheet(1, Layouts.ALL);
        int[] due = {3, 0, 2, 4, 5, NONE};
        for (int c = 0; c < due.length; c++) {
            CHECK.due("plan 1 " + c, p.plan(1, c), due[c]);
        }
    }

    /** Each print of a label can be spoiled once. */
    static void againAndAgain() {
        StickerPress p = Layouts.with(40, 0, 0);
        p.come(5, 1);
        for (int c = 0; c < 40; c++) {
            CHECK.due("print " + c, p.print(0), 1);
            CHECK.due("times", p.label(0, 1), c + 1);
            CHECK.due("spoil " + c, p.spoil(0, c), 0);
            CHECK.due("again", p.spoil(0, c), NONE);
            CHECK.due("one waits", p.look(1), 1);
        }
        CHECK.due("no cell is left", p.print(0), NONE);
    }
}
