/** Promises 9 to 13: numbers as bars, their reading, and OUT as the tape. */
public final class BarsTest {
    private static final Check CHECK = new Check("BarsTest");
    private static final int NONE = StickerPress.NONE;

    public static void main(String[] args) {
        ratio();
        bars();
        barsRefused();
        readsAllBars();
        readsMeasured();
        readsFromBehind();
        faultOfCount();
        faultOfEnds();
        faultOfDigits();
        faultOfCheck();
        faultsInTheirOrder();
        faultTold();
        take();
        CHECK.close();
    }

    /** What is told is that, and OUT stayed. */
    private static void dueFault(StickerPress p, String what, int answer, int fault, int place) {
        CHECK.due(what, answer, NONE);
        CHECK.due(what + ": fault", p.fault(0), fault);
        CHECK.due(what + ": place", p.fault(1), place);
        CHECK.due(what + ": from behind", p.fault(2), 0);
        CHECK.due(what + ": out stays", Check.out(p), "KEEP");
        CHECK.due(what + ": tape is empty", p.end(1), false);
    }

    private static StickerPress keeping() {
        StickerPress p = new StickerPress();
        Check.fit(p, "KEEP", 20);
        return p;
    }

    private static void ratio() {
        StickerPress p = new StickerPress();
        int[] wrong = {1, 4, 0, -2, -3, Integer.MAX_VALUE, Integer.MIN_VALUE};
        CHECK.due("9 three", p.ratio(3), true);
        for (int r : wrong) {
            CHECK.due("9 ratio " + r, p.ratio(r), false);
        }
        Check.tape(p, "1");
        p.bars();
        CHECK.due("9 wide ones are three", Check.stripes(p), Bars.widths(Bars.stripesOf("17"), 1, 3));
        CHECK.due("9 two", p.ratio(2), true);
        Check.tape(p, "1");
        p.bars();
        CHECK.due("9 wide ones are two", Check.stripes(p), Bars.widths(Bars.stripesOf("17"), 1, 2));
    }

    private static void bars() {
        String[][] rows = {
            {"1", "17"}, {"0", "00"}, {"2", "24"}, {"3", "31"}, {"4", "48"}, {"5", "55"}, {"6", "62"}, {"7", "79"},
            {"8", "86"}, {"9", "93"}, {"12", "0123"}, {"00", "0000"}, {"123", "1236"}, {"90", "0901"},
            {"10", "0109"}, {"12345678901", "123456789012"}, {"0000000001", "000000000017"}, {"99999999999", "999999999993"}};
        for (String[] row : rows) {
            StickerPress p = new StickerPress();
            Check.tape(p, row[0]);
            CHECK.due("10 bars of " + row[0], p.bars(), 7 + 5 * row[1].length());
            CHECK.due("10 stripes of " + row[0], Check.stripes(p), Bars.widths(Bars.stripesOf(row[1]), 1, 2));
            CHECK.due("10 tape is empty", p.end(1), false);
        }
        StickerPress p = new StickerPress();
        Check.tape(p, "1");
        p.bars();
        CHECK.due("10 by hand", Check.stripes(p), "1111" + "2111111222" + "211");
    }

    private static void barsRefused() {
        StickerPress p = keeping();
        String[] wrong = {"", "123456789012", "12A", "/", ":", " 1", "1 ", "-1", "\u00b1", "\u0001", "0".repeat(40)};
        for (String row : wrong) {
            Check.tape(p, row);
            CHECK.due("10 bars of '" + row + "'", p.bars(), NONE);
            CHECK.due("10 out stays", Check.out(p), "KEEP");
            CHECK.due("10 tape is empty behind none", p.end(1), false);
        }
    }

    private static void readsAllBars() {
        for (int number = 0; number < 120; number++) {
            String digits = number % 2 == 0 ? "" + number : "00" + number * 7919L;
            StickerPress p = new StickerPress();
            p.ratio(2 + number / 40 % 2);
            Check.tape(p, digits);
            p.bars();
            int stripes = p.take();
            CHECK.due("11 digits of " + digits, p.read(), (stripes - 7) / 5);
            String ahead = digits.length() % 2 == 0 ? "0" : "";
            String got = Check.out(p);
            CHECK.due("11 read " + digits, got.substring(0, got.length() - 1), ahead + digits);
            CHECK.due("11 tape is empty", p.end(1), false);
        }
    }

    private static void readsMeasured() {
        StickerPress p = new StickerPress();
        CHECK.due("11 widest apart", Bars.read(p, Bars.stripesOf("0123"), 1, 99), 4);
        CHECK.due("11 digits", Check.out(p), "0123");
        CHECK.due("11 nearest", Bars.read(p, Bars.stripesOf("17"), 98, 99), 2);
        int[] bytes = Check.bytesOf(Bars.stripesOf("17"));
        // With 10 and 20 as the least and the greatest, 15 is narrow and 16 is wide.
        for (int i = 0; i < bytes.length; i++) {
            bytes[i] = bytes[i] == '1' ? 16 : 15;
        }
        bytes[0] = 10;
        bytes[4] = 20;
        Check.tape(p, bytes);
        CHECK.due("11 between the least and the greatest", p.read(), 2);
        CHECK.due("11 digits between", Check.out(p), "17");
        bytes[14] = 15;
        Check.tape(p, bytes);
        CHECK.due("11 just the middle is narrow", p.read(), NONE);
        CHECK.due("11 the end is another one", p.fault(0), 2);
    }

    private static void readsFromBehind() {
        String[] rows = {"17", "0123", "1236", "123456789012", "000000000017"};
        for (String row : rows) {
            StickerPress p = new StickerPress();
            CHECK.due("11 from behind " + row, Bars.read(p, Bars.reversed(Bars.stripesOf(row)), 3, 8), row.length());
            CHECK.due("11 digits from behind", Check.out(p), row);
            CHECK.due("12 no fault", p.fault(0), 0);
            CHECK.due("12 no place", p.fault(1), NONE);
            CHECK.due("12 from behind", p.fault(2), 1);
            Bars.read(p, Bars.stripesOf(row), 3, 8);
            CHECK.due("12 as they come", p.fault(2), 0);
            CHECK.due("11 digits as they come", Check.out(p), row);
        }
    }

    private static void faultOfCount() {
        for (int n = 0; n <= 130; n++) {
            StickerPress p = keeping();
            int[] bytes = new int[n];
            java.util.Arrays.fill(bytes, 1);
            Check.tape(p, bytes);
            boolean can = n >= 17 && n <= 67 && n % 10 == 7;
            dueFault(p, "12 stripes " + n, p.read(), can ? 2 : 1, 0);
        }
        StickerPress p = keeping();
        int[] wrong = {0, 100, 127, 128, 129, 255};
        for (int measure : wrong) {
            for (int i : new int[] {0, 8, 16}) {
                int[] bytes = new int[17];
                String stripes = Bars.stripesOf("17");
                for (int k = 0; k < 17; k++) {
                    bytes[k] = stripes.charAt(k) == '1' ? 2 : 1;
                }
                bytes[i] = measure;
                Check.tape(p, bytes);
                dueFault(p, "12 measure " + measure, p.read(), 1, 0);
            }
        }
        int[] seven = new int[77];
        String stripes = Bars.stripesOf("12345678901234");
        for (int k = 0; k < 77; k++) {
            seven[k] = stripes.charAt(k) == '1' ? 2 : 1;
        }
        Check.tape(p, seven);
        dueFault(p, "12 seven pairs", p.read(), 1, 0);
        // Of 200 and more the tape has no more.
        Check.tape(p, new int[200]);
        dueFault(p, "12 a full tape", p.read(), 1, 0);
    }

    private static void faultOfEnds() {
        StickerPress p = keeping();
        String good = Bars.stripesOf("0123");
        int[] ends = {0, 1, 2, 3, 24, 25, 26};
        for (int i : ends) {
            dueFault(p, "12 end " + i, Bars.read(p, Bars.changed(good, i), 1, 2), 2, 0);
        }
        dueFault(p, "12 all are as wide", Bars.read(p, good, 5, 5), 2, 0);
    }

    private static void faultOfDigits() {
        String good = Bars.stripesOf("12345670");
        for (int i = 4; i < 44; i++) {
            StickerPress p = keeping();
            dueFault(p, "12 stripe " + i, Bars.read(p, Bars.changed(good, i), 1, 2), 3, 2 * ((i - 4) / 10));
        }
        StickerPress p = keeping();
        dueFault(p, "12 the first of two pairs", Bars.read(p, Bars.changed(Bars.changed(good, 40), 15), 1, 2), 3, 2);
        // Read as they come it fails at the digits, from behind at the ends: told is the former.
        dueFault(p, "12 the last pair", Bars.read(p, Bars.changed(Bars.stripesOf("123456789012"), 63), 1, 2), 3, 10);
    }

    private static void faultOfCheck() {
        StickerPress p = keeping();
        for (int check = 0; check < 10; check++) {
            if (check != 7) {
                dueFault(p, "12 check " + check, Bars.read(p, Bars.stripesOf("1" + check), 1, 2), 4, 0);
            }
        }
        dueFault(p, "12 two digits changed about", Bars.read(p, Bars.stripesOf("1326"), 1, 2), 4, 0);
        CHECK.due("12 as it is due", Bars.read(p, Bars.stripesOf("1236"), 1, 2), 4);
        StickerPress q = keeping();
        dueFault(q, "12 from behind with another check", Bars.read(q, Bars.reversed(Bars.stripesOf("18")), 1, 2), 2, 0);
    }

    private static void faultsInTheirOrder() {
        StickerPress p = keeping();
        String broken = Bars.changed(Bars.changed(Bars.stripesOf("18"), 5), 16);
        dueFault(p, "12 ends ahead of digits", Bars.read(p, broken, 1, 2), 2, 0);
        dueFault(p, "12 digits ahead of the check", Bars.read(p, Bars.changed(Bars.stripesOf("1233"), 5), 1, 2), 3, 0);
        dueFault(p, "12 measures ahead of ends", Bars.read(p, broken, 0, 2), 1, 0);
    }

    private static void faultTold() {
        StickerPress p = new StickerPress();
        Bars.read(p, Bars.stripesOf("18"), 1, 2);
        CHECK.due("12 fault", p.fault(0), 4);
        int[] wrong = {-1, 3, 4, Integer.MAX_VALUE, Integer.MIN_VALUE};
        for (int what : wrong) {
            CHECK.due("12 what " + what, p.fault(what), NONE);
        }
        Bars.read(p, Bars.reversed(Bars.stripesOf("17")), 1, 2);
        Bars.read(p, "", 1, 2);
        CHECK.due("12 of the latest read: fault", p.fault(0), 1);
        CHECK.due("12 of the latest read: place", p.fault(1), 0);
        CHECK.due("12 of the latest read: direction", p.fault(2), 0);
        Bars.read(p, Bars.stripesOf("17"), 1, 2);
        CHECK.due("12 without one", p.fault(0), 0);
        CHECK.due("12 no place without one", p.fault(1), NONE);
        Check.tape(p, "x");
        p.bars();
        CHECK.due("12 bars tell no fault", p.fault(0), 0);
    }

    private static void take() {
        StickerPress p = new StickerPress();
        CHECK.due("13 nothing", p.take(), 0);
        Check.fit(p, "ABC", 99);
        Check.tape(p, "LONGER");
        CHECK.due("13 three", p.take(), 3);
        CHECK.due("13 the tape has three", p.end(4), false);
        CHECK.due("13 out stays", Check.out(p), "ABC");
        CHECK.due("13 once more", p.take(), 3);
        CHECK.due("13 it is the tape", p.fit(99), 15);
        CHECK.due("13 the text", Check.out(p), "ABC");
        Check.fit(p, "TOO WIDE", 1);
        Check.tape(p, "Q");
        CHECK.due("13 an empty one", p.take(), 0);
        CHECK.due("13 the tape is empty", p.end(1), false);
        Check.tape(p, "12345678901");
        p.bars();
        CHECK.due("13 stripes", p.take(), 67);
        CHECK.due("13 feed behind", p.feed(0, 0, 0, 0, 0), 87);
    }
}
