/** Promise 6: fit, and the terms TEXT, SHORTENINGS and FIT. */
public final class Promise06FitTest {
    private static final Check CHECK = new Check("Promise06FitTest");
    private static final int NONE = StickerPress.NONE;

    public static void main(String[] args) throws Exception {
        CHECK.runAll(Promise06FitTest.class);
    }

    private static void dueRefused(String what, String tape, int width) {
        Twins.Calls ahead = p -> {
            Twins.busy(p);
            p.end(0);
            Check.tape(p, tape);
        };
        Twins.dueNoneAndTapeEmpty(CHECK, what, ahead, p -> p.fit(width));
    }

    private static void dueFit(StickerPress p, String text, int width, int reached, int set, String out) {
        String what = "fit of '" + text + "' to " + width;
        CHECK.due(what, Check.fit(p, text, width), reached);
        CHECK.due(what + ", used", p.used(), set);
        CHECK.due(what + ", out", Check.out(p), out);
    }

    /** There is none: the set that was used ahead stays. */
    private static void dueNoFit(StickerPress p, String text, int width) {
        String what = "fit of '" + text + "' to " + width;
        int used = p.used();
        CHECK.due(what, Check.fit(p, text, width), NONE);
        CHECK.due(what + ", used", p.used(), used);
        CHECK.due(what + ", out", Check.out(p), "");
        CHECK.due(what + ", tape", p.end(1), false);
    }

    /** "to a width (0 .. 999)": the least. */
    static void leastWidth() {
        StickerPress p = new StickerPress();
        dueFit(p, "", 0, 0, 0, "");
        dueNoFit(p, "A", 0);
        Check.shorten(p, 0, "A", "");
        dueFit(p, "AAA", 0, 0, 1, "");
    }

    /** "to a width (0 .. 999)": the greatest. */
    static void greatestWidth() {
        dueFit(new StickerPress(), "A", 999, 5, 0, "A");
    }

    /** "the width can't be (OUT stays)": below 0. */
    static void widthTooSmall() {
        for (int width : new int[] {-1, -5, Integer.MIN_VALUE}) {
            dueRefused("fit to " + width, "STREET", width);
            dueRefused("fit of nothing to " + width, "", width);
        }
    }

    /** "the width can't be (OUT stays)": above 999. */
    static void widthTooLarge() {
        for (int width : new int[] {1000, 1001, 65536, Integer.MAX_VALUE}) {
            dueRefused("fit to " + width, "STREET", width);
            dueRefused("fit of nothing to " + width, "", width);
        }
    }

    /** "A TEXT: up to 30 SIGNS": none, one, thirty. */
    static void lengthsOfATextThatCanBe() {
        for (int n = 0; n <= 30; n++) {
            dueFit(new StickerPress(), "A".repeat(n), 5 * n, 5 * n, 0, "A".repeat(n));
        }
    }

    /** "it is no TEXT (OUT stays)": it is too long, also if shortenings would make it short. */
    static void textTooLong() {
        dueRefused("fit of 31", "B".repeat(31), 999);
        dueRefused("fit of 31 that can be shortened", "AA".repeat(15) + "B", 999);
        dueRefused("fit of 32 to 0", "AA".repeat(16), 0);
        dueRefused("fit of 200", "B".repeat(200), 999);
    }

    /** "it is no TEXT (OUT stays)": it has another byte than SIGNS. */
    static void otherBytesThanSigns() {
        for (int other : new int[] {0, 31, 127, 128, 32 + 128, 65 + 128, 255}) {
            dueRefused("fit of byte " + other, "" + (char) other, 999);
            dueRefused("fit of first byte " + other, (char) other + "ABC", 999);
            dueRefused("fit of last byte " + other, "ABC" + (char) other, 999);
            dueRefused("fit to 0 of byte " + other, "ABC" + (char) other, 0);
        }
    }

    /** The least and the greatest byte that are SIGNS. */
    static void signsAtTheEnds() {
        dueFit(new StickerPress(), " ~", 8, 8, 0, " ~");
    }

    /** "NONE: .. it is no TEXT, or the width can't be": both. */
    static void noTextAndNoWidth() {
        dueRefused("fit of 31 to -1", "B".repeat(31), -1);
        dueRefused("fit of byte 127 to 1000", "\u007f", 1000);
    }

    /** "NONE: there is none (OUT is empty then)". */
    static void thereIsNone() {
        StickerPress p = new StickerPress();
        Check.shorten(p, 3, "STREET", "ST.");
        dueFit(p, "STREET", 29, 15, 8, "ST.");
        dueNoFit(p, "STREET", 14);
        dueFit(p, "STREET", 30, 30, 0, "STREET");
        dueNoFit(p, "ROAD", 19);
    }

    /** "NONE: there is none": nothing else changes with it. */
    static void thereIsNoneAndNothingElse() {
        Twins.Calls ahead = p -> { Twins.busy(p); p.end(0); Check.fit(p, "ROAD", 1); Check.tape(p, "ROAD"); };
        Twins.dueNoneAndTapeEmpty(CHECK, "fit", ahead, p -> p.fit(18));
    }

    /** "FIT of the TAPE (empty then)": behind one that told a width. */
    static void tapeIsEmptyThen() {
        StickerPress p = new StickerPress();
        Check.fit(p, "ROAD", 20);
        CHECK.due("end 1", p.end(1), false);
        CHECK.due("feed", p.feed(0, 0, 0, 0, 0), 20);
    }

    /** "it is so wide at most": just so wide, and one less. */
    static void justSoWide() {
        StickerPress p = new StickerPress();
        Check.shorten(p, 0, "AB", "C");
        dueFit(p, "ABX", 15, 15, 0, "ABX");
        dueFit(p, "ABX", 14, 10, 1, "CX");
        dueFit(p, "ABX", 10, 10, 1, "CX");
        dueNoFit(p, "ABX", 9);
    }

    /** "so wide at most": the widest text that can be, 60 signs of 20, is wider than 999. */
    static void widerThanAnyWidth() {
        StickerPress p = new StickerPress();
        p.wide('A', 20);
        p.wide('B', 20);
        Check.shorten(p, 0, "A", "BB");
        dueFit(p, "A".repeat(30), 600, 600, 0, "A".repeat(30));
        dueNoFit(p, "A".repeat(30), 599);
        p.wide('B', 9);
        dueFit(p, "A".repeat(30), 599, 540, 1, "B".repeat(60));
    }

    /** "SHORTENINGS that are told": one that is not told, or no more, is in no set. */
    static void onlyThoseThatAreTold() {
        StickerPress p = new StickerPress();
        Check.shorten(p, 0, "A", "");
        Check.shorten(p, 5, "A", "");
        dueFit(p, "AB", 5, 5, 1, "B");
        p.shorten(0, 0);
        dueFit(p, "AB", 5, 5, 32, "B");
        p.shorten(5, 0);
        dueNoFit(p, "AB", 5);
    }

    /** "those of the fewest": none if it fits as it is, though a set would make it wider. */
    static void fewestIsNone() {
        StickerPress p = new StickerPress();
        Check.shorten(p, 0, "A", "AA");
        dueFit(p, "A", 10, 5, 0, "A");
    }

    /** "those of the fewest": one, though two would be wider. */
    static void fewestAheadOfWidest() {
        StickerPress p = new StickerPress();
        Check.shorten(p, 0, "A", "");
        Check.shorten(p, 1, "B", "");
        Check.shorten(p, 2, "CCCC", "");
        dueFit(p, "ABCCCC", 20, 10, 4, "AB");
    }

    /** "of these those with which it is widest": though another one has a lesser number. */
    static void widestAheadOfLeast() {
        StickerPress p = new StickerPress();
        Check.shorten(p, 0, "AAA", "");
        Check.shorten(p, 1, "BB", "");
        Check.shorten(p, 2, "C", "");
        dueFit(p, "AAABBC", 29, 25, 4, "AAABB");
        dueFit(p, "AAABBC", 24, 20, 2, "AAAC");
        dueFit(p, "AAABBC", 19, 15, 1, "BBC");
        dueFit(p, "AAABBC", 14, 10, 5, "BB");
    }

    /** "of these the least as a number": of single ones. */
    static void leastOfOne() {
        StickerPress p = new StickerPress();
        Check.shorten(p, 5, "A", "");
        Check.shorten(p, 3, "B", "");
        Check.shorten(p, 4, "C", "");
        dueFit(p, "ABC", 14, 10, 8, "AC");
    }

    /** "(SHORTENING i counts 2 to the i)": 1 and 2 are 6, 0 and 3 are 9. */
    static void leastAsANumber() {
        StickerPress p = new StickerPress();
        Check.shorten(p, 0, "A", "");
        Check.shorten(p, 1, "BB", "");
        Check.shorten(p, 2, "CCC", "");
        Check.shorten(p, 3, "DDDD", "");
        dueFit(p, "ABBCCCDDDD", 29, 25, 6, "ADDDD");
    }

    /** All six, and of five the least. */
    static void mostOfAll() {
        StickerPress p = new StickerPress();
        for (int i = 0; i < 6; i++) {
            Check.shorten(p, i, "" + (char) ('a' + i), "");
        }
        dueFit(p, "abcdef", 0, 0, 63, "");
        dueFit(p, "abcdef", 9, 5, 31, "f");
        dueNoFit(p, "abcdefg", 4);
    }

    /** "60 SIGNS at most on the way": just 60, between two shortenings. */
    static void sixtyOnTheWay() {
        StickerPress p = new StickerPress();
        Check.shorten(p, 0, "A", "BBBBBB");
        Check.shorten(p, 1, "B", "");
        dueFit(p, "A".repeat(10), 0, 0, 3, "");
        Check.shorten(p, 0, "A", "BB");
        dueFit(p, "A".repeat(30), 0, 0, 3, "");
    }

    /** "60 SIGNS at most on the way": 61 are too many, though fewer would come out. */
    static void sixtyOneOnTheWay() {
        StickerPress p = new StickerPress();
        Check.shorten(p, 0, "A", "BBBBBB");
        Check.shorten(p, 1, "B", "");
        dueNoFit(p, "B" + "A".repeat(10), 0);
        dueNoFit(p, "A".repeat(10) + "B", 0);
        dueNoFit(p, "A".repeat(11), 0);
        dueNoFit(p, "A".repeat(30), 0);
    }

    /** "60 SIGNS at most on the way": 60 may come out, 61 may not. */
    static void sixtyAtTheEnd() {
        StickerPress p = new StickerPress();
        p.wide('A', 20);
        p.wide('b', 1);
        Check.shorten(p, 4, "A", "bbbbbb");
        dueFit(p, "A".repeat(10), 199, 60, 16, "b".repeat(60));
        dueNoFit(p, "A".repeat(10) + "b", 199);
        dueNoFit(p, "b" + "A".repeat(10), 199);
    }

    /** "60 SIGNS at most on the way": another set that has no more is taken. */
    static void anotherWay() {
        StickerPress p = new StickerPress();
        p.wide('A', 20);
        p.wide('b', 1);
        Check.shorten(p, 0, "A", "bbb");
        Check.shorten(p, 1, "A", "b");
        dueFit(p, "A".repeat(21), 419, 21, 2, "b".repeat(21));
        dueFit(p, "A".repeat(20), 399, 60, 1, "b".repeat(60));
    }

    /** "one behind the other by their numbers". */
    static void byTheirNumbers() {
        StickerPress p = new StickerPress();
        Check.shorten(p, 4, "AB", "C");
        Check.shorten(p, 5, "CC", "D");
        dueFit(p, "ABAB", 9, 5, 48, "D");
        p.shorten(5, 0);
        Check.shorten(p, 3, "CC", "D");
        dueNoFit(p, "ABAB", 9);
    }

    /** "each goes through the TEXT from the left". */
    static void fromTheLeft() {
        StickerPress p = new StickerPress();
        Check.shorten(p, 0, "ABA", "X");
        dueFit(p, "ABABA", 24, 15, 1, "XBA");
        Check.shorten(p, 0, "AA", "B");
        dueFit(p, "AAA", 14, 10, 1, "BA");
    }

    /** "where FROM stands, TO stands in its place": at the beginning, in the middle, at the end, more than once. */
    static void eachPlace() {
        StickerPress p = new StickerPress();
        Check.shorten(p, 0, "AB", "C");
        dueFit(p, "ABXX", 19, 15, 1, "CXX");
        dueFit(p, "XABX", 19, 15, 1, "XCX");
        dueFit(p, "XXAB", 19, 15, 1, "XXC");
        dueFit(p, "ABABXAB", 34, 20, 1, "CCXC");
        dueFit(p, "AABB", 19, 15, 1, "ACB");
    }

    /** "where FROM stands": a part of it at the end is none, and the text may be shorter than it. */
    static void partsOfFrom() {
        StickerPress p = new StickerPress();
        Check.shorten(p, 0, "ABC", "");
        dueNoFit(p, "XAB", 14);
        dueNoFit(p, "AB", 9);
        dueNoFit(p, "BC", 9);
        dueFit(p, "ABABC", 24, 10, 1, "AB");
    }

    /** "and it goes on behind that": what it made is not looked at again. */
    static void goesOnBehindWhatItMade() {
        StickerPress p = new StickerPress();
        Check.shorten(p, 0, "AA", "A");
        dueFit(p, "AAAAA", 24, 15, 1, "AAA");
        Check.shorten(p, 0, "AB", "A");
        dueFit(p, "ABB", 14, 10, 1, "AB");
        Check.shorten(p, 0, "AB", "");
        dueFit(p, "AABB", 19, 10, 1, "AB");
    }

    /** "it goes on behind that": TO may have FROM in it. */
    static void toHasFrom() {
        StickerPress p = new StickerPress();
        p.wide('X', 20);
        p.wide('A', 1);
        Check.shorten(p, 0, "X", "AXA");
        dueNoFit(p, "X", 19);
        Check.shorten(p, 1, "X", "");
        dueFit(p, "XX", 39, 0, 2, "");
        Check.shorten(p, 1, "XA", "AA");
        dueFit(p, "X", 19, 3, 3, "AAA");
    }
}
