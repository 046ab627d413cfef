/** Promises 14 to 18: sheets, labels that come, and the best layout. */
public final class SheetsTest {
    private static final Check CHECK = new Check("SheetsTest");
    private static final int NONE = StickerPress.NONE;
    private static final long ALL = Layouts.ALL;

    public static void main(String[] args) {
        sheet();
        come();
        comeAtMost();
        look();
        fewestPieces();
        fewestSheets();
        firstByGroups();
        firstBySheets();
        tornGroup();
        noLayout();
        heap();
        plan();
        planOfHeaps();
        planKeepsUp();
        CHECK.close();
    }

    private static void sheet() {
        StickerPress p = new StickerPress();
        CHECK.due("14 all cells", p.sheet(0, ALL), true);
        CHECK.due("14 free", p.look(2), 40);
        CHECK.due("14 last cell alone", p.sheet(2, 1L << 39), true);
        CHECK.due("14 free with it", p.look(2), 41);
        CHECK.due("14 no cells", p.sheet(1, 0), true);
        Object[][] wrong = {{-1, 1L}, {3, 1L}, {Integer.MAX_VALUE, 1L}, {Integer.MIN_VALUE, 1L}, {0, -1L},
            {0, 1L << 40}, {0, Long.MIN_VALUE}, {0, Long.MAX_VALUE}, {0, ALL + 1}, {1, 1L << 62}, {0, 1L << 63}};
        for (Object[] row : wrong) {
            CHECK.due("14 sheet " + row[0] + " " + row[1], p.sheet((Integer) row[0], (Long) row[1]), false);
            CHECK.due("14 nothing is done", p.look(2), 41);
        }
        p.come(0, 1);
        p.sheet(0, 0);
        CHECK.due("14 cells by number", p.plan(2, 39), 0);
        CHECK.due("14 printed", p.print(2), 1);
        CHECK.due("14 a false call does not renew it", p.sheet(2, -5), false);
        CHECK.due("14 printed stands", p.printed(2, 39), 0);
        CHECK.due("14 a new one", p.sheet(2, 3), true);
        CHECK.due("14 nothing is printed on it", p.printed(2, 39), NONE);
        CHECK.due("14 can't be spoiled any more", p.spoil(2, 39), NONE);
        CHECK.due("14 label stays printed", p.label(0, 1), 1);
        CHECK.due("14 label does not wait", p.label(0, 2), 0);
        p.come(0, 1);
        p.print(2);
        p.spoil(2, 0);
        p.sheet(2, 1);
        p.print(2);
        CHECK.due("14 a new sheet is not spoiled", p.spoil(2, 0), 1);
    }

    private static void come() {
        StickerPress p = new StickerPress();
        CHECK.due("15 first", p.come(5, 3), 0);
        CHECK.due("15 second", p.come(0, 40), 3);
        CHECK.due("15 third", p.come(5, 1), 43);
        int[][] wrong = {{-1, 1}, {6, 1}, {1, 0}, {1, -1}, {1, 41}, {0, 1}, {5, 37}, {Integer.MAX_VALUE, 1},
            {Integer.MIN_VALUE, 1}, {1, Integer.MAX_VALUE}, {1, Integer.MIN_VALUE}, {5, Integer.MAX_VALUE}};
        for (int[] row : wrong) {
            CHECK.due("15 come " + row[0] + " " + row[1], p.come(row[0], row[1]), NONE);
            CHECK.due("15 nothing is done", p.look(0) * 1000 + p.look(1), 44044);
        }
        CHECK.due("15 forty in all", p.come(5, 36), 44);
        CHECK.due("15 groups", p.label(2, 0) * 100 + p.label(3, 0) * 10 + p.label(43, 0), 505);
    }

    private static void comeAtMost() {
        StickerPress p = new StickerPress();
        for (int i = 0; i < 5; i++) {
            CHECK.due("15 forties", p.come(i, i == 4 ? 39 : 40), 40 * i);
        }
        CHECK.due("15 more than 200", p.come(5, 2), NONE);
        CHECK.due("15 just 200", p.come(5, 1), 199);
        CHECK.due("15 none behind 200", p.come(5, 1), NONE);
        CHECK.due("15 all came", p.look(0), 200);
        StickerPress q = new StickerPress();
        for (int i = 0; i < 5; i++) {
            q.sheet(0, ALL);
            q.come(0, 40);
            CHECK.due("15 printed make way", q.print(0), 40);
        }
        CHECK.due("15 200 in all, though none wait", q.come(1, 1), NONE);
        CHECK.due("15 printed ones count", q.look(0), 200);
        CHECK.due("15 none wait", q.look(1), 0);
        CHECK.due("15 spoiled does not come", q.spoil(0, 0), 160);
        CHECK.due("15 still 200", q.look(0), 200);
    }

    private static void look() {
        StickerPress p = Layouts.with(5, 10, 0);
        CHECK.due("16 pieces without labels", p.look(3), 0);
        CHECK.due("16 sheets without labels", p.look(4), 0);
        p.come(1, 4);
        p.come(2, 3);
        CHECK.due("16 came", p.look(0), 7);
        CHECK.due("16 wait", p.look(1), 7);
        CHECK.due("16 free", p.look(2), 15);
        CHECK.due("16 pieces", p.look(3), 2);
        CHECK.due("16 sheets", p.look(4), 1);
        p.print(1);
        CHECK.due("16 came behind print", p.look(0), 7);
        CHECK.due("16 wait behind print", p.look(1), 0);
        CHECK.due("16 free behind print", p.look(2), 8);
        CHECK.due("16 pieces behind print", p.look(3), 0);
        p.spoil(1, 0);
        CHECK.due("16 wait behind spoil", p.look(1), 1);
        CHECK.due("16 free behind spoil", p.look(2), 8);
        CHECK.due("16 sheets behind spoil, asked first", p.look(4), 1);
        int[] wrong = {-1, 5, Integer.MAX_VALUE, Integer.MIN_VALUE};
        for (int what : wrong) {
            CHECK.due("16 what " + what, p.look(what), NONE);
        }
    }

    private static void fewestPieces() {
        StickerPress p = Layouts.with(3, 4, 0);
        p.come(0, 3);
        p.come(1, 4);
        // One heap of two sheets is 2 + 2 - 1 pieces; two heaps are 2 + 2 - 2.
        CHECK.due("16 two heaps", Layouts.best(p), "010000|01- 2 2");
        StickerPress q = Layouts.with(10, 10, 10);
        q.come(0, 6);
        q.come(1, 6);
        q.come(2, 6);
        q.come(3, 4);
        CHECK.due("16 three heaps of one sheet", Layouts.best(q), "012000|012 4 3");
        q.come(3, 1);
        CHECK.due("16 three sheets, one torn", Layouts.best(q), "000100|001 5 3");
    }

    private static void fewestSheets() {
        StickerPress p = Layouts.with(3, 10, 4);
        p.come(0, 3);
        p.come(1, 4);
        CHECK.due("16 one sheet", Layouts.best(p), "000000|-0- 2 1");
        p.come(2, 4);
        // All pieces are equal; two sheets are fewer than three.
        CHECK.due("16 two sheets", Layouts.best(p), "001000|-01 3 2");
    }

    private static void firstByGroups() {
        StickerPress p = Layouts.with(7, 7, 0);
        p.come(1, 2);
        p.come(3, 5);
        p.come(5, 5);
        CHECK.due("17 lesser heaps of groups first", Layouts.best(p), "000001|01- 3 2");
        StickerPress q = Layouts.with(5, 7, 0);
        q.come(1, 2);
        q.come(3, 5);
        q.come(5, 5);
        CHECK.due("17 groups ahead of sheets", Layouts.best(q), "000001|10- 3 2");
    }

    private static void firstBySheets() {
        StickerPress p = Layouts.with(9, 9, 9);
        p.come(4, 9);
        CHECK.due("17 sheet 0, none last", Layouts.best(p), "000000|0-- 1 1");
        p.come(4, 1);
        CHECK.due("17 sheets 0 and 1", Layouts.best(p), "000000|00- 2 2");
        p.sheet(0, Layouts.first(1));
        CHECK.due("17 sheets 0 and 1 just so", Layouts.best(p), "000000|00- 2 2");
        p.sheet(0, 0);
        CHECK.due("17 sheets 1 and 2", Layouts.best(p), "000000|-00 2 2");
        p.come(0, 9);
        p.sheet(0, Layouts.first(8));
        CHECK.due("17 group 0 has heap 0, so sheet 1 has it", Layouts.best(p), "000010|101 3 3");
        p.sheet(0, Layouts.first(9));
        CHECK.due("17 lesser heap for the lesser sheet", Layouts.best(p), "000010|011 3 3");
    }

    private static void tornGroup() {
        StickerPress p = Layouts.with(4, 4, 4);
        p.come(0, 12);
        CHECK.due("17 on three sheets", Layouts.best(p), "000000|000 3 3");
        p.sheet(1, Layouts.first(5));
        p.come(1, 1);
        CHECK.due("17 two on three sheets", Layouts.best(p), "000000|000 4 3");
    }

    private static void noLayout() {
        StickerPress p = Layouts.with(3, 3, 3);
        p.come(2, 10);
        CHECK.due("16 no layout", Layouts.best(p), "------|--- -1 -1");
        CHECK.due("18 no layout", p.plan(0, 0), NONE);
        CHECK.due("19 no layout", p.print(0), NONE);
        CHECK.due("16 came without a layout", p.look(0), 10);
        CHECK.due("16 wait without a layout", p.look(1), 10);
        CHECK.due("16 free without a layout", p.look(2), 9);
        p.sheet(1, Layouts.first(7));
        CHECK.due("16 a layout again", Layouts.best(p), "000000|00- 2 2");
    }

    private static void heap() {
        StickerPress p = Layouts.with(3, 4, 5);
        p.come(1, 4);
        CHECK.due("17 group with labels", p.heap(1, 0), 0);
        CHECK.due("17 group without labels", p.heap(5, 0), 0);
        CHECK.due("17 sheet in a heap", p.heap(1, 1), 0);
        CHECK.due("17 sheet in none", p.heap(0, 1), NONE);
        int[][] wrong = {{-1, 0}, {6, 0}, {-1, 1}, {3, 1}, {0, 2}, {0, -1}, {5, 1}, {1, 2}, {1, -1},
            {Integer.MAX_VALUE, 0}, {Integer.MIN_VALUE, 0}, {Integer.MAX_VALUE, 1}, {1, Integer.MAX_VALUE}};
        for (int[] row : wrong) {
            CHECK.due("17 heap " + row[0] + " " + row[1], p.heap(row[0], row[1]), NONE);
        }
    }

    private static void plan() {
        StickerPress p = new StickerPress();
        p.sheet(0, 0b1010010L);
        p.sheet(1, (1L << 39) | 1L);
        p.come(3, 2);
        p.come(1, 2);
        p.come(3, 1);
        // Group 1 has 2, 3 and group 3 has 0, 1, 4: best is each on its own sheet.
        CHECK.due("18 best", Layouts.best(p), "000100|10- 2 2");
        CHECK.due("18 first of group 1", p.plan(1, 0), 2);
        CHECK.due("18 second of group 1", p.plan(1, 39), 3);
        CHECK.due("18 no free cell", p.plan(1, 1), NONE);
        CHECK.due("18 first of group 3", p.plan(0, 1), 0);
        CHECK.due("18 second of group 3", p.plan(0, 4), 1);
        CHECK.due("18 third of group 3", p.plan(0, 6), 4);
        CHECK.due("18 cell 0 is not free", p.plan(0, 0), NONE);
        int[][] wrong = {{-1, 0}, {3, 0}, {0, -1}, {0, 40}, {0, Integer.MAX_VALUE}, {Integer.MIN_VALUE, 0},
            {1, -39}, {-1, 79}, {0, 79}, {2, 0}, {Integer.MAX_VALUE, Integer.MAX_VALUE}};
        for (int[] row : wrong) {
            CHECK.due("18 plan " + row[0] + " " + row[1], p.plan(row[0], row[1]), NONE);
        }
        CHECK.due("18 a plan prints nothing", p.printed(0, 1), NONE);
        CHECK.due("18 a plan leaves them waiting", p.look(1), 5);
    }

    private static void planOfHeaps() {
        StickerPress p = Layouts.with(4, 3, 5);
        p.come(2, 6);
        p.come(0, 1);
        p.come(5, 5);
        CHECK.due("18 torn best", Layouts.best(p), "000001|001 4 3");
        CHECK.due("18 group 0 first", p.plan(0, 0), 6);
        CHECK.due("18 group 2 behind it", p.plan(0, 1), 0);
        CHECK.due("18 group 2 to the end of sheet 0", p.plan(0, 3), 2);
        CHECK.due("18 group 2 goes on on sheet 1", p.plan(1, 0), 3);
        CHECK.due("18 group 2 ends", p.plan(1, 2), 5);
        CHECK.due("18 group 5 on sheet 2", p.plan(2, 0), 7);
        CHECK.due("18 last one of group 5", p.plan(2, 4), 11);
    }

    private static void planKeepsUp() {
        StickerPress p = Layouts.with(2, 3, 0);
        p.come(0, 2);
        CHECK.due("18 on sheet 0", p.plan(0, 1), 1);
        p.come(0, 1);
        CHECK.due("18 on sheet 1 behind come", p.plan(1, 2), 2);
        p.sheet(0, Layouts.first(3));
        CHECK.due("18 on sheet 0 behind sheet", p.plan(0, 2), 2);
        p.print(0);
        CHECK.due("18 nothing behind print", p.plan(0, 2), NONE);
        p.spoil(0, 1);
        CHECK.due("18 again behind spoil", p.plan(1, 0), 1);
    }
}
