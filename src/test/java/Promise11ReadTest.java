/** Promise 11: read, and the term READ. */
public final class Promise11ReadTest {
    private static final Check CHECK = new Check("Promise11ReadTest");
    private static final int NONE = StickerPress.NONE;
    private static final String[] ROWS = {"17", "1236", "012348", "12345670", "0000000000", "123456789012"};

    public static void main(String[] args) throws Exception {
        CHECK.runAll(Promise11ReadTest.class);
    }

    private static void dueRead(StickerPress p, String what, int answer, String digits) {
        CHECK.due(what, answer, digits.length());
        CHECK.due(what + ", out", Check.out(p), digits);
        CHECK.due(what + ", tape", p.end(1), false);
    }

    /** A read that is refused as the one ahead was, so that not even the fault changes. */
    private static void dueRefused(String what, int[] measures) {
        Twins.Calls ahead = p -> {
            Twins.busy(p);
            p.end(0);
            Check.tape(p, measures);
            p.read();
            Check.tape(p, measures);
        };
        Twins.dueNoneAndTapeEmpty(CHECK, what, ahead, p -> p.read());
    }

    /** "how many digits": one pair at least, 6 at most, and each number of pairs between. */
    static void eachNumberOfPairs() {
        for (String row : ROWS) {
            StickerPress p = new StickerPress();
            dueRead(p, "read " + row, Bars.read(p, Bars.stripesOf(row), 1, 2), row);
        }
    }

    /** "(the CHECK, and a 0 that came ahead, too)": what bars() made is read with both. */
    static void checkAndNoughtAreDigitsToo() {
        StickerPress p = new StickerPress();
        Bars.bars(p, "12");
        p.take();
        dueRead(p, "read 12", p.read(), "0123");
        Bars.bars(p, "12345678901");
        p.take();
        dueRead(p, "read 12345678901", p.read(), "123456789012");
    }

    /** "OUT has them": and nothing of a longer OUT ahead. */
    static void outHasThem() {
        StickerPress p = new StickerPress();
        Check.fit(p, "A".repeat(30), 999);
        Bars.read(p, Bars.stripesOf("17"), 1, 2);
        CHECK.due("out", Check.out(p), "17");
        CHECK.due("used stays", p.used(), 0);
    }

    /** "a FAULT (OUT stays)": a stripe is 0, or above 99, wherever it is. */
    static void measureCanNotBe() {
        for (int wrong : new int[] {0, 100, 127, 128, 129, 255}) {
            for (int i = 0; i < 17; i += 4) {
                int[] measures = Bars.measures(Bars.stripesOf("17"), 1, 2);
                measures[i] = wrong;
                dueRefused("stripe " + i + " is " + wrong, measures);
            }
        }
    }

    /** "(1 .. 99 each": the least and the greatest can be, side by side too. */
    static void leastAndGreatestMeasure() {
        StickerPress p = new StickerPress();
        dueRead(p, "1 and 99", Bars.read(p, Bars.stripesOf("17"), 1, 99), "17");
        dueRead(p, "98 and 99", Bars.read(p, Bars.stripesOf("17"), 98, 99), "17");
        dueRead(p, "1 and 2", Bars.read(p, Bars.stripesOf("17"), 1, 2), "17");
    }

    /** "a FAULT (OUT stays)": each number of stripes that can't be, up to a full tape. */
    static void numberOfStripesCanNotBe() {
        String many = Bars.stripesOf("17") + Bars.stripesOf("17").repeat(11);
        for (int n = 0; n <= 200; n++) {
            boolean can = n == 17 || n == 27 || n == 37 || n == 47 || n == 57 || n == 67;
            if (!can) {
                StickerPress p = new StickerPress();
                Check.fit(p, "KEEP", 20);
                CHECK.due("read " + n, Bars.read(p, many.substring(0, n), 1, 2), NONE);
                CHECK.due("fault of " + n, p.fault(0), 1);
                CHECK.due("out stays", Check.out(p), "KEEP");
                CHECK.due("the tape is empty", p.end(1), false);
            }
        }
    }

    /** "a FAULT (OUT stays)": no stripes; less than a pair; seven pairs, and twelve that would be 127 stripes. */
    static void tooFewAndTooManyPairs() {
        dueRefused("no stripes", new int[0]);
        dueRefused("no pair", Bars.measures("0000100", 1, 2));
        dueRefused("seven pairs", Bars.measures(Bars.stripesOf("12345678901231"), 1, 2));
        dueRefused("twelve pairs", Bars.measures(Bars.stripesOf("0".repeat(24)), 1, 2));
        dueRefused("a full tape", new int[200]);
    }

    /** "a FAULT (OUT stays)": each of the other faults. */
    static void otherFaults() {
        String good = Bars.stripesOf("0123");
        dueRefused("the beginning", Bars.measures(Bars.changed(good, 0), 1, 2));
        dueRefused("the end", Bars.measures(Bars.changed(good, 26), 1, 2));
        dueRefused("no digit", Bars.measures(Bars.changed(good, 14), 1, 2));
        dueRefused("another check", Bars.measures(Bars.stripesOf("0124"), 1, 2));
    }

    /** "wide if 2 times it is above l + g": just the half of them is narrow, one more is wide. */
    static void halfIsNarrow() {
        StickerPress p = new StickerPress();
        int[] measures = Bars.measures(Bars.stripesOf("17"), 15, 16);
        measures[0] = 10;
        measures[4] = 20;
        Check.tape(p, measures);
        dueRead(p, "15 narrow and 16 wide of 10 and 20", p.read(), "17");
        measures[14] = 15;
        dueRefused("15 is not wide", measures);
        measures[14] = 16;
        measures[1] = 16;
        dueRefused("16 is not narrow", measures);
    }

    /** "2 times it": an odd sum is not made even. */
    static void oddSumOfLeastAndGreatest() {
        StickerPress p = new StickerPress();
        int[] measures = Bars.measures(Bars.stripesOf("17"), 15, 16);
        measures[0] = 10;
        measures[4] = 21;
        Check.tape(p, measures);
        dueRead(p, "15 narrow and 16 wide of 10 and 21", p.read(), "17");
    }

    /** "with the least l and the greatest g" of all, wherever they stand. */
    static void leastAndGreatestOfAll() {
        String stripes = Bars.stripesOf("17");
        for (int i = 0; i < 17; i++) {
            boolean wide = stripes.charAt(i) == '1';
            StickerPress p = new StickerPress();
            int[] measures = Bars.measures(stripes, 40, 52);
            // 52 is wide with 40 and 63, and no more with 40 and 64; 40 is narrow with 28 and 52, and no more with 27.
            measures[i] = wide ? 63 : 28;
            Check.tape(p, measures);
            dueRead(p, "stripe " + i, p.read(), "17");
            measures[i] = wide ? 64 : 27;
            Check.tape(p, measures);
            CHECK.due("stripe " + i + " farther off", p.read(), NONE);
        }
    }

    /** All stripes are as wide: none is wide. */
    static void allAlike() {
        for (int measure : new int[] {1, 50, 99}) {
            dueRefused("all are " + measure, Bars.measures(Bars.stripesOf("17"), measure, measure));
        }
    }

    /** "They are read as they come, or, if that can't be, from behind". */
    static void fromBehind() {
        for (String row : ROWS) {
            StickerPress p = new StickerPress();
            dueRead(p, "behind " + row, Bars.read(p, Bars.reversed(Bars.stripesOf(row)), 3, 7), row);
        }
    }

    /** "from behind": with a wrong check from there it is refused as well. */
    static void fromBehindWithAFault() {
        dueRefused("another check", Bars.measures(Bars.reversed(Bars.stripesOf("18")), 1, 2));
        dueRefused("no digit", Bars.measures(Bars.changed(Bars.reversed(Bars.stripesOf("17")), 5), 1, 2));
    }

    /** Narrow is narrow whatever the RATIO is now: it counts for bars() alone. */
    static void ratioDoesNotMatter() {
        StickerPress p = new StickerPress();
        p.ratio(3);
        dueRead(p, "ratio 3, two wide", Bars.read(p, Bars.stripesOf("17"), 1, 2), "17");
        p.ratio(2);
        dueRead(p, "ratio 2, three wide", Bars.read(p, Bars.stripesOf("17"), 1, 3), "17");
    }
}
