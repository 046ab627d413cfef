/** Promise 1: a new object, and what the terms say that things are at first. */
public final class Promise01NewObjectTest {
    private static final Check CHECK = new Check("Promise01NewObjectTest");
    private static final int NONE = StickerPress.NONE;

    public static void main(String[] args) throws Exception {
        CHECK.runAll(Promise01NewObjectTest.class);
    }

    /** "NONE = -1". */
    static void noneIsMinusOne() {
        CHECK.due("NONE", StickerPress.NONE, -1);
    }

    /** "Nothing is told": no byte is on the tape. */
    static void tapeIsEmpty() {
        StickerPress p = new StickerPress();
        CHECK.due("end 1", p.end(1), false);
        CHECK.due("end 0", p.end(0), true);
        CHECK.due("feed", p.feed(0, 0, 0, 0, 0), 20);
    }

    /** "Nothing is told": OUT is empty. */
    static void outIsEmpty() {
        StickerPress p = new StickerPress();
        CHECK.due("out 0", p.out(0), NONE);
        CHECK.due("take", p.take(), 0);
    }

    /** "Nothing is told": no fit, no read. */
    static void noFitAndNoReadWasTold() {
        StickerPress p = new StickerPress();
        CHECK.due("used", p.used(), NONE);
        CHECK.due("fault 0", p.fault(0), 0);
        CHECK.due("fault 1", p.fault(1), NONE);
        CHECK.due("fault 2", p.fault(2), 0);
    }

    /** "SIGNS are the bytes 33 .. 126 (5 wide each at first)". */
    static void signsAreFiveWideAtFirst() {
        StickerPress p = new StickerPress();
        for (int sign = 33; sign <= 126; sign++) {
            CHECK.due("width of " + sign, Check.fit(p, "" + (char) sign, 999), 5);
        }
    }

    /** "the blank 32 (3 at first)". */
    static void blankIsThreeWideAtFirst() {
        CHECK.due("width of a blank", Check.fit(new StickerPress(), " ", 999), 3);
    }

    /** "SHORTENINGS 0 .. 5 (at first none)". */
    static void noShorteningsAtFirst() {
        StickerPress p = new StickerPress();
        for (int sign = 32; sign <= 126; sign++) {
            int width = sign == 32 ? 3 : 5;
            CHECK.due("nothing shortens " + sign, Check.fit(p, "" + (char) sign, width - 1), NONE);
        }
        CHECK.due("no set was used", p.used(), NONE);
    }

    /** "RATIO (2 or 3; 2 at first)". */
    static void ratioIsTwoAtFirst() {
        StickerPress p = new StickerPress();
        Bars.bars(p, "1");
        CHECK.due("stripes", Check.stripes(p), "11112111111222211");
    }

    /** "no CELLS are free". */
    static void noCellsAreFree() {
        StickerPress p = new StickerPress();
        CHECK.due("free cells", p.look(2), 0);
        p.come(0, 1);
        CHECK.due("no cell for one label", p.look(3), NONE);
        for (int s = 0; s < 3; s++) {
            CHECK.due("print " + s, p.print(s), NONE);
        }
    }

    /** "GROUPS 0 .. 5 have some labels each (0 .. 40, 0 at first)". */
    static void groupsHaveNoLabelsAtFirst() {
        StickerPress p = new StickerPress();
        CHECK.due("came", p.look(0), 0);
        CHECK.due("wait", p.look(1), 0);
        for (int what = 0; what < 3; what++) {
            CHECK.due("label 0, " + what, p.label(0, what), NONE);
        }
        for (int g = 0; g < 5; g++) {
            CHECK.due("group " + g + " has room for 40", p.come(g, 40), 40 * g);
        }
        CHECK.due("group 5 has room for 40", new StickerPress().come(5, 40), 0);
    }

    /** "Nothing is told": there is nothing to lay, so the layout is empty. */
    static void nothingIsLaid() {
        StickerPress p = new StickerPress();
        CHECK.due("best", Layouts.best(p), "000000|--- 0 0");
        for (int s = 0; s < 3; s++) {
            for (int c = 0; c < 40; c++) {
                CHECK.due("plan " + s + " " + c, p.plan(s, c), NONE);
            }
            CHECK.due("print " + s, p.print(s), 0);
        }
    }

    /** "Nothing is told": no cell has a label. */
    static void nothingIsPrinted() {
        StickerPress p = new StickerPress();
        for (int s = 0; s < 3; s++) {
            for (int c = 0; c < 40; c++) {
                CHECK.due("printed " + s + " " + c, p.printed(s, c), NONE);
                CHECK.due("spoil " + s + " " + c, p.spoil(s, c), NONE);
            }
        }
    }

    /** A new object: what was told to another one is not told to it. */
    static void objectsShareNothing() {
        StickerPress old = new StickerPress();
        Twins.busy(old);
        CHECK.due("beside a busy one", Twins.difference(p -> { }, p -> Twins.busy(new StickerPress()), p -> { }), "");
        CHECK.due("the old one keeps its own", old.look(0), 7);
    }
}
