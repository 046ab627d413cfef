/** Promises 19 to 22: labels that are printed, spoiled, and printed again. */
public final class LabelsTest {
    private static final Check CHECK = new Check("LabelsTest");
    private static final int NONE = StickerPress.NONE;
    private static final long ALL = (1L << 40) - 1;

    public static void main(String[] args) {
        print();
        printInParts();
        printRefused();
        printed();
        spoil();
        spoiledTwice();
        spoilRefusedWithForty();
        laidByNumber();
        label();
        CHECK.close();
    }

    private static void print() {
        StickerPress p = new StickerPress();
        p.sheet(0, 0b10110L);
        p.come(4, 2);
        CHECK.due("19 two", p.print(0), 2);
        CHECK.due("19 in cell 1", p.printed(0, 1), 0);
        CHECK.due("19 in cell 2", p.printed(0, 2), 1);
        CHECK.due("19 cell 4 is empty", p.printed(0, 4), NONE);
        CHECK.due("19 no more free", p.look(2), 1);
        CHECK.due("19 none wait", p.look(1), 0);
        CHECK.due("19 nothing to print", p.print(0), 0);
        CHECK.due("19 printed once", p.label(0, 1), 1);
        p.come(4, 1);
        CHECK.due("19 the next one", p.print(0), 1);
        CHECK.due("19 in cell 4", p.printed(0, 4), 2);
        CHECK.due("19 the others stay", p.printed(0, 1), 0);
    }

    private static void printInParts() {
        StickerPress p = new StickerPress();
        p.sheet(0, 7);
        p.sheet(1, 7);
        p.sheet(2, 1);
        p.come(0, 5);
        CHECK.due("19 a sheet in no heap", p.print(2), 0);
        CHECK.due("19 sheet 1", p.print(1), 2);
        CHECK.due("19 label 3", p.printed(1, 0), 3);
        CHECK.due("19 label 4", p.printed(1, 1), 4);
        CHECK.due("19 three wait", p.look(1), 3);
        CHECK.due("19 label 0 waits", p.label(0, 2), 1);
        CHECK.due("19 label 3 does not", p.label(3, 2), 0);
        CHECK.due("19 sheet 0", p.print(0), 3);
        CHECK.due("19 label 2", p.printed(0, 2), 2);
        CHECK.due("19 none wait then", p.look(1), 0);
        CHECK.due("19 free then", p.look(2), 2);
    }

    private static void printRefused() {
        StickerPress p = new StickerPress();
        p.sheet(0, 1);
        p.come(0, 1);
        int[] wrong = {-1, 3, Integer.MAX_VALUE, Integer.MIN_VALUE};
        for (int s : wrong) {
            CHECK.due("19 print " + s, p.print(s), NONE);
        }
        p.come(0, 1);
        CHECK.due("19 no layout", p.print(0), NONE);
        CHECK.due("19 nothing is printed", p.printed(0, 0), NONE);
        CHECK.due("19 nothing is done", p.look(1) * 10 + p.look(2), 21);
        CHECK.due("19 no times", p.label(0, 1), 0);
    }

    private static void printed() {
        StickerPress p = new StickerPress();
        p.sheet(2, ALL);
        p.come(1, 40);
        p.print(2);
        for (int c = 0; c < 40; c++) {
            CHECK.due("20 cell " + c, p.printed(2, c), c);
            CHECK.due("20 another sheet", p.printed(1, c), NONE);
        }
        int[][] wrong = {{-1, 0}, {3, 0}, {2, -1}, {2, 40}, {1, 40}, {1, 41}, {0, 80}, {3, -1}, {Integer.MAX_VALUE, 0},
            {2, Integer.MIN_VALUE}, {Integer.MIN_VALUE, Integer.MAX_VALUE}};
        for (int[] row : wrong) {
            CHECK.due("20 printed " + row[0] + " " + row[1], p.printed(row[0], row[1]), NONE);
            CHECK.due("21 spoil " + row[0] + " " + row[1], p.spoil(row[0], row[1]), NONE);
        }
        p.spoil(2, 7);
        CHECK.due("20 also one that was spoiled", p.printed(2, 7), 7);
        CHECK.due("20 none was spoiled besides", p.look(1), 1);
    }

    private static void spoil() {
        StickerPress p = new StickerPress();
        p.sheet(0, 0b1111);
        p.come(3, 2);
        CHECK.due("21 not yet printed", p.spoil(0, 0), NONE);
        p.print(0);
        CHECK.due("21 its number", p.spoil(0, 1), 1);
        CHECK.due("21 it waits", p.label(1, 2), 1);
        CHECK.due("21 the other does not", p.label(0, 2), 0);
        CHECK.due("21 its cell is not free", p.look(2), 2);
        CHECK.due("21 already", p.spoil(0, 1), NONE);
        CHECK.due("21 a free cell", p.spoil(0, 2), NONE);
        CHECK.due("21 one waits", p.look(1), 1);
        CHECK.due("21 none came", p.look(0), 2);
        CHECK.due("21 planned anew", p.plan(0, 2), 1);
    }

    private static void spoiledTwice() {
        StickerPress p = new StickerPress();
        p.sheet(0, 1);
        p.sheet(1, 1);
        p.sheet(2, 1);
        p.come(0, 1);
        p.print(0);
        p.spoil(0, 0);
        CHECK.due("21 printed again", p.print(1), 1);
        CHECK.due("21 twice", p.label(0, 1), 2);
        CHECK.due("21 the old one was spoiled already", p.spoil(0, 0), NONE);
        CHECK.due("21 it does not wait", p.label(0, 2), 0);
        CHECK.due("21 the new one", p.spoil(1, 0), 0);
        CHECK.due("21 it waits", p.label(0, 2), 1);
        CHECK.due("21 printed a third time", p.print(2), 1);
        CHECK.due("21 thrice", p.label(0, 1), 3);
        for (int s = 0; s < 3; s++) {
            CHECK.due("20 on each sheet", p.printed(s, 0), 0);
        }
    }

    private static void spoilRefusedWithForty() {
        StickerPress p = new StickerPress();
        p.sheet(0, 3);
        p.come(2, 2);
        p.print(0);
        p.come(2, 39);
        CHECK.due("21 the fortieth", p.spoil(0, 0), 0);
        CHECK.due("21 forty wait", p.spoil(0, 1), NONE);
        CHECK.due("21 nothing is done", p.look(1), 40);
        CHECK.due("21 it does not wait", p.label(1, 2), 0);
        CHECK.due("15 no more come", p.come(2, 1), NONE);
        p.sheet(1, ALL);
        p.print(1);
        CHECK.due("21 it was not spoiled", p.spoil(0, 1), 1);
    }

    private static void laidByNumber() {
        StickerPress p = new StickerPress();
        p.sheet(0, 7);
        p.come(1, 3);
        p.print(0);
        p.come(0, 1);
        p.come(1, 2);
        p.spoil(0, 2);
        p.spoil(0, 1);
        p.sheet(1, ALL);
        int[] due = {3, 1, 2, 4, 5, NONE};
        for (int c = 0; c < due.length; c++) {
            CHECK.due("21 laid by number, cell " + c, p.plan(1, c), due[c]);
        }
        CHECK.due("21 all are printed", p.print(1), 5);
        for (int i = 0; i < 6; i++) {
            CHECK.due("22 times of " + i, p.label(i, 1), i == 1 || i == 2 ? 2 : 1);
        }
    }

    private static void label() {
        StickerPress p = new StickerPress();
        p.come(5, 1);
        p.come(2, 1);
        CHECK.due("22 group of 0", p.label(0, 0), 5);
        CHECK.due("22 group of 1", p.label(1, 0), 2);
        CHECK.due("22 not printed", p.label(1, 1), 0);
        CHECK.due("22 waits", p.label(1, 2), 1);
        int[][] wrong = {{-1, 0}, {2, 0}, {2, 1}, {2, 2}, {0, 3}, {0, -1}, {200, 0}, {199, 2}, {Integer.MAX_VALUE, 0},
            {Integer.MIN_VALUE, 1}, {0, Integer.MAX_VALUE}, {0, Integer.MIN_VALUE}};
        for (int[] row : wrong) {
            CHECK.due("22 label " + row[0] + " " + row[1], p.label(row[0], row[1]), NONE);
        }
        for (int g = 0; g < 5; g++) {
            p.come(g, g == 4 ? 39 : g == 2 ? 39 : 40);
        }
        CHECK.due("22 last of 200", p.label(199, 0), 4);
        CHECK.due("22 behind the last", p.label(200, 0), NONE);
    }
}
