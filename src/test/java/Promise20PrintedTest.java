/** Promise 20: printed. */
public final class Promise20PrintedTest {
    private static final Check CHECK = new Check("Promise20PrintedTest");
    private static final int NONE = StickerPress.NONE;

    public static void main(String[] args) throws Exception {
        CHECK.runAll(Promise20PrintedTest.class);
    }

    private static StickerPress full() {
        StickerPress p = Layouts.with(40, 40, 40);
        for (int g = 0; g < 3; g++) {
            p.come(g, 40);
        }
        for (int s = 0; s < 3; s++) {
            p.print(s);
        }
        return p;
    }

    private static void dueNone(StickerPress p, int s, int c) {
        CHECK.due("printed " + s + " " + c, p.printed(s, c), NONE);
    }

    /** "CELL c of SHEET s": each cell of each sheet. */
    static void eachCell() {
        StickerPress p = full();
        for (int s = 0; s < 3; s++) {
            for (int c = 0; c < 40; c++) {
                CHECK.due("printed " + s + " " + c, p.printed(s, c), 40 * s + c);
            }
        }
    }

    /** "NONE for none": no such sheet. */
    static void sheetCanNotBe() {
        StickerPress p = full();
        for (int s : new int[] {-1, 3, 4, 256, Integer.MIN_VALUE, Integer.MAX_VALUE}) {
            dueNone(p, s, 0);
            dueNone(p, s, 39);
        }
        dueNone(p, -1, 40);
        dueNone(p, 3, -1);
    }

    /** "NONE for none": no such cell, though the sheet beside it has labels. */
    static void cellCanNotBe() {
        StickerPress p = full();
        for (int c : new int[] {-1, 40, 41, 79, 80, 256, Integer.MIN_VALUE, Integer.MAX_VALUE}) {
            for (int s = 0; s < 3; s++) {
                dueNone(p, s, c);
            }
        }
    }

    /** "NONE for none": a free cell, one that never was free, one that is planned alone. */
    static void nothingIsPrintedThere() {
        StickerPress p = new StickerPress();
        p.sheet(0, 0b1011);
        p.come(0, 2);
        dueNone(p, 0, 0);
        p.print(0);
        CHECK.due("printed", p.printed(0, 0), 0);
        dueNone(p, 0, 2);
        dueNone(p, 0, 3);
        dueNone(p, 1, 0);
    }

    /** "(also one that was SPOILED)": ahead of its next print and behind it. */
    static void spoiledOne() {
        StickerPress p = Layouts.with(1, 1, 0);
        p.come(0, 1);
        p.print(0);
        p.spoil(0, 0);
        CHECK.due("spoiled", p.printed(0, 0), 0);
        p.print(1);
        CHECK.due("printed again elsewhere", p.printed(0, 0), 0);
        CHECK.due("there", p.printed(1, 0), 0);
    }

    /** "NONE for none": the sheet is a new one. */
    static void newSheet() {
        StickerPress p = full();
        p.spoil(1, 5);
        p.sheet(1, 0);
        for (int c = 0; c < 40; c++) {
            dueNone(p, 1, c);
            CHECK.due("sheet 0 stays", p.printed(0, c), c);
        }
    }

    static void askingChangesNothing() {
        Twins.Calls asks = p -> {
            for (int c = -1; c <= 40; c++) {
                p.printed(0, c);
            }
        };
        CHECK.due("busy", Twins.difference(Twins::busy, asks, p -> { }), "");
    }
}
