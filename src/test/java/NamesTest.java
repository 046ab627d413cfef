/** Promises 1 to 8: a new object, the tape, and names brought to a width. */
public final class NamesTest {
    private static final Check CHECK = new Check("NamesTest");
    private static final int NONE = StickerPress.NONE;

    public static void main(String[] args) {
        newObject();
        wide();
        feed();
        end();
        shorten();
        shortenRefused();
        goesThroughFromTheLeft();
        fitChooses();
        sixtyOnTheWay();
        fitRefused();
        used();
        out();
        CHECK.close();
    }

    private static void newObject() {
        StickerPress p = new StickerPress();
        CHECK.due("1 used", p.used(), NONE);
        CHECK.due("1 out", p.out(0), NONE);
        CHECK.due("1 end 1", p.end(1), false);
        CHECK.due("1 end 0", p.end(0), true);
        CHECK.due("1 take", p.take(), 0);
        CHECK.due("1 fault 0", p.fault(0), 0);
        CHECK.due("1 fault 1", p.fault(1), NONE);
        CHECK.due("1 fault 2", p.fault(2), 0);
        for (int what = 0; what <= 4; what++) {
            CHECK.due("1 look " + what, p.look(what), 0);
        }
        for (int g = 0; g < 6; g++) {
            CHECK.due("1 heap of group " + g, p.heap(g, 0), 0);
        }
        for (int s = 0; s < 3; s++) {
            CHECK.due("1 heap of sheet " + s, p.heap(s, 1), NONE);
            CHECK.due("1 print " + s, p.print(s), 0);
            CHECK.due("1 plan " + s, p.plan(s, 0), NONE);
            CHECK.due("1 printed " + s, p.printed(s, 0), NONE);
            CHECK.due("1 spoil " + s, p.spoil(s, 0), NONE);
        }
        CHECK.due("1 label", p.label(0, 0), NONE);
        p.come(0, 1);
        CHECK.due("1 no cells are free", p.look(3), NONE);
        for (int sign = 32; sign <= 126; sign++) {
            CHECK.due("1 width of " + sign, Check.fit(p, "" + (char) sign, 999), sign == 32 ? 3 : 5);
            CHECK.due("1 no shortening", p.used(), 0);
        }
        StickerPress q = new StickerPress();
        Check.tape(q, "7");
        q.bars();
        CHECK.due("1 ratio 2", q.out(14), 2);
    }

    private static void wide() {
        StickerPress p = new StickerPress();
        CHECK.due("2 blank", p.wide(32, 1), true);
        CHECK.due("2 last sign", p.wide(126, 20), true);
        CHECK.due("2 widths", Check.fit(p, " ~ A", 999), 1 + 20 + 1 + 5);
        int[][] wrong = {{31, 5}, {127, 5}, {65, 0}, {65, 21}, {65, -1}, {-65, 5},
            {Integer.MIN_VALUE, 5}, {Integer.MAX_VALUE, 5}, {65, Integer.MAX_VALUE}, {65, Integer.MIN_VALUE}};
        for (int[] pair : wrong) {
            CHECK.due("2 wide " + pair[0] + " " + pair[1], p.wide(pair[0], pair[1]), false);
        }
        CHECK.due("2 nothing was done", Check.fit(p, " ~ A", 999), 27);
        CHECK.due("2 narrower", p.wide(126, 2), true);
        CHECK.due("2 narrower width", Check.fit(p, "~~", 999), 4);
    }

    private static void feed() {
        StickerPress p = new StickerPress();
        for (int i = 1; i <= 10; i++) {
            CHECK.due("3 feed " + i, p.feed(0x41424344, 0x45464748, 0x494A4B4C, 0x4D4E4F50, 0x51525354), 20 * i);
        }
        CHECK.due("3 full", p.feed(0, 0, 0, 0, 0), NONE);
        CHECK.due("3 nothing came", p.end(201), false);
        CHECK.due("3 has 200", p.end(200), true);
        p.end(181);
        CHECK.due("3 181 and 20", p.feed(0, 0, 0, 0, 0), NONE);
        p.end(180);
        CHECK.due("3 180 and 20", p.feed(0, 0, 0, 0, 0), 200);
        p.end(30);
        CHECK.due("3 fit", p.fit(999), 150);
        CHECK.due("3 order", Check.out(p), "ABCDEFGHIJKLMNOPQRSTABCDEFGHIJ");
        p.feed(-1, -1, -1, -1, -1);
        p.end(1);
        CHECK.due("3 byte 255 is no sign", p.fit(999), NONE);
        p.feed(0xC1C2C3C4, 0, 0, 0, 0);
        p.end(1);
        CHECK.due("3 byte 193 is no sign", p.fit(999), NONE);
    }

    private static void end() {
        StickerPress p = new StickerPress();
        p.feed(0x41424344, 0x45464748, 0x494A4B4C, 0x4D4E4F50, 0x51525354);
        CHECK.due("4 below 0", p.end(-1), false);
        CHECK.due("4 least", p.end(Integer.MIN_VALUE), false);
        CHECK.due("4 not so many", p.end(21), false);
        CHECK.due("4 all", p.end(20), true);
        CHECK.due("4 five", p.end(5), true);
        CHECK.due("4 six is gone", p.end(6), false);
        CHECK.due("4 changed nothing", p.fit(999), 25);
        CHECK.due("4 first ones", Check.out(p), "ABCDE");
        p.feed(0x41424344, 0, 0, 0, 0);
        CHECK.due("4 none", p.end(0), true);
        CHECK.due("4 empty", p.fit(999), 0);
    }

    private static void shorten() {
        StickerPress p = new StickerPress();
        CHECK.due("5 told", Check.shorten(p, 0, "STREET", "ST."), true);
        CHECK.due("5 tape is empty", p.feed(0, 0, 0, 0, 0), 20);
        p.end(0);
        CHECK.due("5 fits", Check.fit(p, "STREET", 29), 15);
        CHECK.due("5 out", Check.out(p), "ST.");
        CHECK.due("5 six to six", Check.shorten(p, 5, "ABCDEF", "ghijkl"), true);
        p.wide('g', 1);
        CHECK.due("5 six to six fits", Check.fit(p, "ABCDEF", 29), 26);
        CHECK.due("5 six to six out", Check.out(p), "ghijkl");
        CHECK.due("5 one to none", Check.shorten(p, 5, " ", ""), true);
        CHECK.due("5 one to none fits", Check.fit(p, "A B", 10), 10);
        CHECK.due("5 one to none out", Check.out(p), "AB");
        CHECK.due("5 the one ahead is gone", Check.fit(p, "ABCDEF", 29), NONE);
        CHECK.due("5 there is none", p.shorten(5, 0), true);
        CHECK.due("5 gone", Check.fit(p, "A B", 10), NONE);
        CHECK.due("5 the other stays", Check.fit(p, "STREET", 29), 15);
        CHECK.due("5 told anew", Check.shorten(p, 5, "~", " "), true);
        CHECK.due("5 told anew fits", Check.fit(p, "~", 4), 3);
    }

    private static void shortenRefused() {
        StickerPress p = new StickerPress();
        Check.shorten(p, 0, "AB", "C");
        Object[][] wrong = {
            {-1, 1, "AB"}, {6, 1, "AB"}, {Integer.MAX_VALUE, 1, "AB"}, {Integer.MIN_VALUE, 1, "AB"},
            {0, 0, "AB"}, {0, -1, "AB"}, {0, 3, "AB"}, {0, 7, "ABCDEFG"}, {0, 7, "ABCDEFGH"}, {0, 6, "ABCDEFGHIJKLM"},
            {0, 1, "ABCDEFGH"}, {0, 1, "A\u001f"}, {0, 1, "A\u007f"}, {0, 1, "\u001fA"}, {0, 1, "\u00c1A"},
            {0, 1, ""}, {0, -1, ""}, {-1, 0, ""}, {6, 0, ""}, {0, Integer.MIN_VALUE, "AB"}, {0, Integer.MAX_VALUE, "AB"}};
        for (Object[] row : wrong) {
            String call = "5 shorten " + row[0] + " " + row[1] + " '" + row[2] + "'";
            Check.tape(p, (String) row[2]);
            CHECK.due(call, p.shorten((Integer) row[0], (Integer) row[1]), false);
            CHECK.due(call + ": the tape is empty", p.end(1), false);
            CHECK.due(call + ": nothing else is done", Check.fit(p, "AB", 9), 5);
            CHECK.due(call + ": used", p.used(), 1);
        }
    }

    private static void goesThroughFromTheLeft() {
        StickerPress p = new StickerPress();
        Check.shorten(p, 0, "AA", "A");
        Check.fit(p, "AAAAA", 24);
        CHECK.due("6 goes on behind what stands there", Check.out(p), "AAA");
        Check.shorten(p, 0, "ABA", "X");
        Check.fit(p, "ABABA", 24);
        CHECK.due("6 from the left", Check.out(p), "XBA");
        Check.shorten(p, 0, "AB", "A");
        Check.fit(p, "ABBB", 19);
        CHECK.due("6 not what it made", Check.out(p), "ABB");
        Check.fit(p, "XXAB", 19);
        CHECK.due("6 at the end", Check.out(p), "XXA");
        CHECK.due("6 a part at the end is no match", Check.fit(p, "XXA", 14), NONE);
        p.shorten(0, 0);
        Check.shorten(p, 1, "AB", "C");
        Check.shorten(p, 2, "CC", "D");
        Check.shorten(p, 0, "D", "");
        CHECK.due("6 one behind the other", Check.fit(p, "ABAB", 9), 5);
        CHECK.due("6 by their numbers", Check.out(p), "D");
        CHECK.due("6 set", p.used(), 6);
        CHECK.due("6 0 comes ahead of 2", Check.fit(p, "ABAB", 4), NONE);
    }

    private static void fitChooses() {
        StickerPress p = new StickerPress();
        Check.shorten(p, 0, "AAAA", "");
        Check.shorten(p, 1, "BB", "b");
        Check.shorten(p, 2, "CC", "c");
        Check.shorten(p, 3, "DDD", "d");
        CHECK.due("6 fits as it is", Check.fit(p, "BBCCDDD", 35), 35);
        CHECK.due("6 none needed", p.used(), 0);
        CHECK.due("6 widest of one", Check.fit(p, "BBCCDDD", 34), 30);
        CHECK.due("6 least number of the widest", p.used(), 2);
        CHECK.due("6 fewest, not widest", Check.fit(p, "BBCCDDD", 25), 25);
        CHECK.due("6 one of 8", p.used(), 8);
        CHECK.due("6 two", Check.fit(p, "BBCCDDD", 24), 20);
        CHECK.due("6 least of two", p.used(), 10);
        CHECK.due("6 three", Check.fit(p, "BBCCDDD", 19), 15);
        CHECK.due("6 all three", p.used(), 14);
        CHECK.due("6 none", Check.fit(p, "BBCCDDD", 14), NONE);
        CHECK.due("6 width reached just so", Check.fit(p, "BBCCDDD", 15), 15);
        Check.shorten(p, 4, "CCDDD", "wxyz");
        CHECK.due("6 wider one with a greater number", Check.fit(p, "CCDDD", 24), 20);
        CHECK.due("6 least number, as wide", p.used(), 4);
        CHECK.due("6 two are needed", Check.fit(p, "AAAACCDDD", 24), 20);
        CHECK.due("6 least of two as wide", p.used(), 5);
        Check.shorten(p, 5, "DDD", "dd");
        CHECK.due("6 wider by 5", Check.fit(p, "DDD", 14), 10);
        CHECK.due("6 set of 5", p.used(), 32);
        StickerPress q = new StickerPress();
        for (int i = 0; i < 6; i++) {
            Check.shorten(q, i, "" + (char) ('a' + i), "");
        }
        CHECK.due("6 all six", Check.fit(q, "abcdef", 0), 0);
        CHECK.due("6 all six are used", q.used(), 63);
        CHECK.due("6 five", Check.fit(q, "abcdef", 9), 5);
        CHECK.due("6 five least", q.used(), 31);
    }

    private static void sixtyOnTheWay() {
        StickerPress p = new StickerPress();
        Check.shorten(p, 0, "A", "BB");
        Check.shorten(p, 1, "B", "");
        String thirty = "A".repeat(30);
        CHECK.due("6 sixty on the way", Check.fit(p, thirty, 0), 0);
        CHECK.due("6 both", p.used(), 3);
        Check.shorten(p, 0, "A", "BBB");
        CHECK.due("6 ninety on the way", Check.fit(p, thirty, 0), NONE);
        CHECK.due("6 sixty of twenty", Check.fit(p, "A".repeat(20), 0), 0);
        CHECK.due("6 sixty-one", Check.fit(p, "A".repeat(20) + "B", 0), NONE);
        Check.shorten(p, 0, "A", "BB");
        Check.shorten(p, 1, "C", "");
        p.wide('A', 20);
        p.wide('B', 1);
        CHECK.due("6 sixty come out", Check.fit(p, thirty, 60), 60);
        CHECK.due("6 sixty out", Check.out(p), "B".repeat(60));
        CHECK.due("6 sixty taken", p.take(), 60);
        CHECK.due("6 sixty are no text", p.fit(999), NONE);
    }

    private static void fitRefused() {
        StickerPress p = new StickerPress();
        Check.fit(p, "KEEP", 20);
        int[] widths = {-1, 1000, Integer.MIN_VALUE, Integer.MAX_VALUE};
        for (int width : widths) {
            CHECK.due("6 width " + width, Check.fit(p, "A", width), NONE);
            CHECK.due("6 tape is empty", p.end(1), false);
            CHECK.due("6 out stays", Check.out(p), "KEEP");
        }
        String[] texts = {"A".repeat(31), "A\u001f", "\u007fA", "\u00ff", "\u0000"};
        for (String text : texts) {
            CHECK.due("6 no text", Check.fit(p, text, 999), NONE);
            CHECK.due("6 tape is empty behind no text", p.end(1), false);
            CHECK.due("6 out stays with no text", Check.out(p), "KEEP");
        }
        CHECK.due("6 there is none", Check.fit(p, "AB", 9), NONE);
        CHECK.due("6 out is empty", Check.out(p), "");
        CHECK.due("6 tape is empty behind none", p.end(1), false);
        CHECK.due("6 thirty", Check.fit(p, "A".repeat(30), 999), 150);
        CHECK.due("6 empty text to 0", p.fit(0), 0);
        CHECK.due("6 empty out", p.out(0), NONE);
        for (int sign = 33; sign <= 126; sign++) {
            p.wide(sign, 20);
        }
        CHECK.due("6 thirty at 600", Check.fit(p, "~".repeat(30), 600), 600);
        CHECK.due("6 thirty at 599", Check.fit(p, "~".repeat(30), 599), NONE);
    }

    private static void used() {
        StickerPress p = new StickerPress();
        Check.shorten(p, 4, "AB", "C");
        CHECK.due("7 ahead of any", p.used(), NONE);
        Check.fit(p, "XX", 1);
        CHECK.due("7 a fit that told none", p.used(), NONE);
        Check.fit(p, "AB", 5);
        CHECK.due("7 set", p.used(), 16);
        Check.fit(p, "XX", 1);
        Check.fit(p, "XX", -1);
        CHECK.due("7 of the latest that told a width", p.used(), 16);
        p.shorten(4, 0);
        CHECK.due("7 stays when the shortening goes", p.used(), 16);
        Check.fit(p, "AB", 10);
        CHECK.due("7 none used", p.used(), 0);
    }

    private static void out() {
        StickerPress p = new StickerPress();
        Check.fit(p, "HI ~", 99);
        CHECK.due("8 first", p.out(0), 'H');
        CHECK.due("8 blank", p.out(2), 32);
        CHECK.due("8 last", p.out(3), 126);
        CHECK.due("8 behind", p.out(4), NONE);
        CHECK.due("8 below", p.out(-1), NONE);
        CHECK.due("8 least", p.out(Integer.MIN_VALUE), NONE);
        CHECK.due("8 greatest", p.out(Integer.MAX_VALUE), NONE);
        CHECK.due("8 far", p.out(66), NONE);
        Check.fit(p, "X", 99);
        CHECK.due("8 what was there is gone", p.out(1), NONE);
    }
}
