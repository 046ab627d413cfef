/** Promise 22: label. */
public final class Promise22LabelTest {
    private static final Check CHECK = new Check("Promise22LabelTest");
    private static final int NONE = StickerPress.NONE;

    public static void main(String[] args) throws Exception {
        CHECK.runAll(Promise22LabelTest.class);
    }

    private static void dueLabel(StickerPress p, int i, int group, int times, int waits) {
        CHECK.due("group of " + i, p.label(i, 0), group);
        CHECK.due("times of " + i, p.label(i, 1), times);
        CHECK.due("wait of " + i, p.label(i, 2), waits);
    }

    private static void dueNone(StickerPress p, int i) {
        dueLabel(p, i, NONE, NONE, NONE);
    }

    /** "NONE if there is none such": none came. */
    static void noneCame() {
        StickerPress p = new StickerPress();
        for (int i : new int[] {0, 1, 199, 200}) {
            dueNone(p, i);
        }
    }

    /** "NONE if there is none such": below 0. */
    static void numberTooSmall() {
        StickerPress p = new StickerPress();
        p.come(0, 40);
        for (int i : new int[] {-1, -40, -256, Integer.MIN_VALUE}) {
            dueNone(p, i);
        }
    }

    /** "NONE if there is none such": the one behind the last, and others that did not come. */
    static void numberTooLarge() {
        StickerPress p = new StickerPress();
        p.come(1, 3);
        dueLabel(p, 2, 1, 0, 1);
        for (int i : new int[] {3, 4, 199, 200, 201, 256, Integer.MAX_VALUE}) {
            dueNone(p, i);
        }
    }

    /** "NONE if there is none such": behind the last of 200. */
    static void behindTheLastOfAll() {
        StickerPress p = new StickerPress();
        for (int g = 0; g < 5; g++) {
            p.come(g, 40);
        }
        dueLabel(p, 0, 0, 0, 1);
        dueLabel(p, 199, 4, 0, 1);
        dueNone(p, 200);
        dueNone(p, 201);
    }

    /** "NONE if .. another what": too small. */
    static void whatTooSmall() {
        StickerPress p = new StickerPress();
        p.come(1, 1);
        for (int what : new int[] {-1, -2, -256, Integer.MIN_VALUE}) {
            CHECK.due("what " + what, p.label(0, what), NONE);
        }
    }

    /** "NONE if .. another what": too large. */
    static void whatTooLarge() {
        StickerPress p = new StickerPress();
        p.come(1, 1);
        for (int what : new int[] {3, 4, 256, 257, Integer.MAX_VALUE}) {
            CHECK.due("what " + what, p.label(0, what), NONE);
        }
    }

    /** "what 0 its GROUP": the least and the greatest, and where one call ends and the next begins. */
    static void itsGroup() {
        StickerPress p = new StickerPress();
        p.come(5, 2);
        p.come(0, 1);
        p.come(5, 1);
        int[] groups = {5, 5, 0, 5};
        for (int i = 0; i < groups.length; i++) {
            CHECK.due("group of " + i, p.label(i, 0), groups[i]);
        }
    }

    /** "1 how often it was printed": not at all, once, and once more for each time that it was spoiled. */
    static void howOften() {
        StickerPress p = Layouts.with(3, 0, 0);
        p.come(2, 1);
        dueLabel(p, 0, 2, 0, 1);
        p.print(0);
        dueLabel(p, 0, 2, 1, 0);
        p.spoil(0, 0);
        dueLabel(p, 0, 2, 1, 1);
        p.print(0);
        dueLabel(p, 0, 2, 2, 0);
        p.spoil(0, 1);
        p.print(0);
        dueLabel(p, 0, 2, 3, 0);
    }

    /** "1 how often it was printed": it stays so when the sheet is a new one. */
    static void staysWithANewSheet() {
        StickerPress p = Layouts.with(1, 0, 0);
        p.come(2, 1);
        p.print(0);
        p.sheet(0, 1);
        dueLabel(p, 0, 2, 1, 0);
    }

    /** "2 1 if it waits, else 0": of those that were printed in part. */
    static void someWait() {
        StickerPress p = Layouts.with(2, 2, 0);
        p.come(0, 4);
        p.print(1);
        dueLabel(p, 0, 0, 0, 1);
        dueLabel(p, 1, 0, 0, 1);
        dueLabel(p, 2, 0, 1, 0);
        dueLabel(p, 3, 0, 1, 0);
    }

    static void askingChangesNothing() {
        Twins.Calls asks = p -> {
            for (int i = -1; i <= 10; i++) {
                for (int what = -1; what <= 3; what++) {
                    p.label(i, what);
                }
            }
        };
        CHECK.due("busy", Twins.difference(Twins::busy, asks, p -> { }), "");
    }
}
