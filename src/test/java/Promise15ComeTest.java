/** Promise 15: come. */
public final class Promise15ComeTest {
    private static final Check CHECK = new Check("Promise15ComeTest");

    public static void main(String[] args) throws Exception {
        CHECK.runAll(Promise15ComeTest.class);
    }

    private static void dueRefused(String what, Twins.Calls ahead, int g, int n) {
        Twins.dueNone(CHECK, "come " + g + " " + n + " " + what, ahead, p -> p.come(g, n));
    }

    private static void dueRefused(int g, int n) {
        dueRefused("to a new press", p -> { }, g, n);
        dueRefused("to a busy press", Twins::busy, g, n);
    }

    /** Prints 40 labels of group 0 on sheet 0. */
    private static void printForty(StickerPress p) {
        p.sheet(0, Layouts.ALL);
        p.come(0, 40);
        p.print(0);
    }

    /** "the number of the first": from 0 on, one behind the other, whatever the group. */
    static void numberOfTheFirst() {
        StickerPress p = new StickerPress();
        CHECK.due("3 of 5", p.come(5, 3), 0);
        CHECK.due("1 of 0", p.come(0, 1), 3);
        CHECK.due("2 of 5", p.come(5, 2), 4);
        CHECK.due("40 of 1", p.come(1, 40), 6);
        CHECK.due("the next", p.come(2, 1), 46);
        CHECK.due("came", p.look(0), 47);
        CHECK.due("wait", p.look(1), 47);
    }

    /** "of GROUP g": each of 0 .. 5. */
    static void eachGroup() {
        for (int g = 0; g < 6; g++) {
            StickerPress p = new StickerPress();
            CHECK.due("come " + g, p.come(g, 2), 0);
            CHECK.due("its group", p.label(0, 0), g);
            CHECK.due("the group of the last", p.label(1, 0), g);
        }
    }

    /** "one can't be": the group is too small. */
    static void groupTooSmall() {
        dueRefused(-1, 1);
        dueRefused(-6, 1);
        dueRefused(Integer.MIN_VALUE, 1);
    }

    /** "one can't be": the group is too large. */
    static void groupTooLarge() {
        dueRefused(6, 1);
        dueRefused(7, 1);
        dueRefused(256, 1);
        dueRefused(Integer.MAX_VALUE, 1);
    }

    /** "So many LABELS (1 .. 40)": each number. */
    static void eachNumber() {
        for (int n = 1; n <= 40; n++) {
            StickerPress p = new StickerPress();
            CHECK.due("come 3 " + n, p.come(3, n), 0);
            CHECK.due("came", p.look(0), n);
            CHECK.due("wait", p.look(1), n);
        }
    }

    /** "one can't be": none or fewer. */
    static void tooFew() {
        dueRefused(0, 0);
        dueRefused(1, -1);
        dueRefused(1, -40);
        dueRefused(1, Integer.MIN_VALUE);
    }

    /** "one can't be": more than 40. */
    static void tooMany() {
        dueRefused(0, 41);
        dueRefused(0, 200);
        dueRefused(0, 201);
        dueRefused(0, 256 + 1);
        dueRefused(1, Integer.MAX_VALUE);
    }

    /** "more than 40 would wait in it": just 40 may. */
    static void justForty() {
        StickerPress p = new StickerPress();
        p.come(2, 39);
        CHECK.due("the fortieth", p.come(2, 1), 39);
        CHECK.due("wait", p.look(1), 40);
        CHECK.due("20", p.come(3, 20), 40);
        CHECK.due("and 20", p.come(3, 20), 60);
    }

    /** "more than 40 would wait in it": one more, or many. */
    static void moreThanFortyWouldWait() {
        dueRefused("behind 40", p -> p.come(2, 40), 2, 1);
        dueRefused("behind 40", p -> p.come(2, 40), 2, 40);
        dueRefused("behind 39", p -> p.come(2, 39), 2, 2);
        dueRefused("behind 1", p -> p.come(2, 1), 2, 40);
        dueRefused("behind 1", p -> p.come(2, 1), 2, Integer.MAX_VALUE);
    }

    /** "would wait in it": other groups don't count, nor do labels that were printed. */
    static void otherLabelsDoNotCount() {
        StickerPress p = new StickerPress();
        printForty(p);
        CHECK.due("40 more of group 0", p.come(0, 40), 40);
        CHECK.due("40 of group 1", p.come(1, 40), 80);
    }

    /** "more than 40 would wait in it": spoiled ones wait, too. */
    static void spoiledOnesCount() {
        Twins.Calls ahead = p -> { printForty(p); p.spoil(0, 7); };
        dueRefused("behind a spoiled one", ahead, 0, 40);
        StickerPress p = new StickerPress();
        ahead.on(p);
        CHECK.due("39", p.come(0, 39), 40);
        CHECK.due("wait", p.look(1), 40);
    }

    /** "more than 200 in all": just 200 may. */
    static void justTwoHundred() {
        StickerPress p = new StickerPress();
        for (int g = 0; g < 5; g++) {
            CHECK.due("forty of " + g, p.come(g, 40), 40 * g);
        }
        CHECK.due("came", p.look(0), 200);
        StickerPress q = new StickerPress();
        for (int g = 0; g < 5; g++) {
            q.come(g, 39);
        }
        CHECK.due("the last five", q.come(5, 5), 195);
        CHECK.due("came again", q.look(0), 200);
    }

    /** "more than 200 in all": one more, though the group has room. */
    static void moreThanTwoHundred() {
        Twins.Calls full = p -> {
            for (int g = 0; g < 5; g++) {
                p.come(g, 40);
            }
        };
        dueRefused("behind 200", full, 5, 1);
        dueRefused("behind 200", full, 5, 40);
        Twins.Calls nearly = p -> {
            for (int g = 0; g < 5; g++) {
                p.come(g, 39);
            }
        };
        dueRefused("behind 195", nearly, 5, 6);
        dueRefused("behind 195", nearly, 5, 40);
    }

    /** "200 in all": printed ones count, though none wait. */
    static void printedOnesCountInAll() {
        Twins.Calls printed = p -> {
            for (int i = 0; i < 5; i++) {
                printForty(p);
            }
        };
        StickerPress p = new StickerPress();
        printed.on(p);
        CHECK.due("came", p.look(0), 200);
        CHECK.due("none wait", p.look(1), 0);
        dueRefused("behind 200 printed ones", printed, 1, 1);
    }

    /** "200 in all": a spoiled one has its number still, so it does not count anew. */
    static void spoiledOnesDoNotCountInAll() {
        StickerPress p = new StickerPress();
        for (int i = 0; i < 4; i++) {
            printForty(p);
        }
        p.spoil(0, 0);
        CHECK.due("came", p.look(0), 160);
        CHECK.due("the last forty", p.come(1, 40), 160);
    }

    /** The number of the next is not touched by calls that were refused. */
    static void numbersHaveNoGaps() {
        StickerPress p = new StickerPress();
        p.come(0, 30);
        p.come(0, 11);
        p.come(6, 1);
        p.come(1, 41);
        CHECK.due("the next", p.come(1, 1), 30);
    }
}
