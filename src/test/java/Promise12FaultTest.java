/** Promise 12: fault, and the term FAULTS. */
public final class Promise12FaultTest {
    private static final Check CHECK = new Check("Promise12FaultTest");
    private static final int NONE = StickerPress.NONE;

    public static void main(String[] args) throws Exception {
        CHECK.runAll(Promise12FaultTest.class);
    }

    private static void dueTold(StickerPress p, String what, int fault, int place, int behind) {
        CHECK.due(what + ": the fault", p.fault(0), fault);
        CHECK.due(what + ": its place", p.fault(1), place);
        CHECK.due(what + ": from behind", p.fault(2), behind);
    }

    private static void dueFault(String what, int[] measures, int fault, int place) {
        StickerPress p = new StickerPress();
        // Behind a read from behind, so that what 2 must change, too.
        Bars.read(p, Bars.reversed(Bars.stripesOf("17")), 1, 2);
        Check.tape(p, measures);
        CHECK.due(what, p.read(), NONE);
        dueTold(p, what, fault, place, 0);
    }

    private static void dueFault(String what, String stripes, int fault, int place) {
        dueFault(what, Bars.measures(stripes, 1, 2), fault, place);
    }

    /** "Of the latest read()": there was none. */
    static void aheadOfAny() {
        dueTold(new StickerPress(), "new", 0, NONE, 0);
    }

    /** "what 0 the FAULT (0 without one), 1 its place (NONE)". */
    static void withoutOne() {
        StickerPress p = new StickerPress();
        Bars.read(p, Bars.stripesOf("17"), 1, 2);
        dueTold(p, "as they come", 0, NONE, 0);
    }

    /** "2 1 if it was read from behind, else 0". */
    static void fromBehind() {
        StickerPress p = new StickerPress();
        Bars.read(p, Bars.reversed(Bars.stripesOf("17")), 1, 2);
        dueTold(p, "from behind", 0, NONE, 1);
    }

    /** "NONE for another what": too small. */
    static void whatTooSmall() {
        StickerPress p = new StickerPress();
        p.read();
        for (int what : new int[] {-1, -2, -256, Integer.MIN_VALUE}) {
            CHECK.due("what " + what, p.fault(what), NONE);
        }
    }

    /** "NONE for another what": too large. */
    static void whatTooLarge() {
        StickerPress p = new StickerPress();
        p.read();
        for (int what : new int[] {3, 4, 256, 257, Integer.MAX_VALUE}) {
            CHECK.due("what " + what, p.fault(what), NONE);
        }
    }

    /** "1 one is not 1 .. 99 .. (place 0)": too small or too large, first or last. */
    static void measureCanNotBe() {
        for (int wrong : new int[] {0, 100, 128, 255}) {
            for (int i : new int[] {0, 8, 16}) {
                int[] measures = Bars.measures(Bars.stripesOf("17"), 1, 2);
                measures[i] = wrong;
                dueFault("stripe " + i + " is " + wrong, measures, 1, 0);
            }
        }
    }

    /** "how many there are can't be (ten for each two digits and seven ..) (place 0)": one less, one more. */
    static void numberOfStripesCanNotBe() {
        for (int pairs = 1; pairs <= 6; pairs++) {
            String good = Bars.stripesOf("0".repeat(2 * pairs));
            dueFault("one less than " + pairs, good.substring(1), 1, 0);
            dueFault("one less at the end than " + pairs, good.substring(0, good.length() - 1), 1, 0);
            dueFault("one more than " + pairs, good + "0", 1, 0);
            dueFault("five more than " + pairs, good + "00110", 1, 0);
        }
    }

    /** "one pair at least": none at all, and the beginning and the end alone. */
    static void lessThanAPair() {
        dueFault("no stripes", "", 1, 0);
        dueFault("no pair", "0000100", 1, 0);
    }

    /** "6 at most": six can be, seven can't, nor can the twelve of 127 stripes or more. */
    static void moreThanSixPairs() {
        StickerPress p = new StickerPress();
        CHECK.due("six", Bars.read(p, Bars.stripesOf("0".repeat(12)), 1, 2), 12);
        for (int pairs : new int[] {7, 8, 12, 13, 19}) {
            dueFault("pairs " + pairs, Bars.stripesOf("0".repeat(2 * pairs)), 1, 0);
        }
    }

    /** "2 the four at the beginning .. are other ones (what is told of the place: 0)": each of the four. */
    static void beginningIsAnother() {
        for (String row : new String[] {"17", "123456789012"}) {
            for (int i = 0; i < 4; i++) {
                dueFault("stripe " + i + " of " + row, Bars.changed(Bars.stripesOf(row), i), 2, 0);
            }
        }
    }

    /** "2 .. the three at the end are other ones (what is told of the place: 0)": each of the three. */
    static void endIsAnother() {
        for (String row : new String[] {"17", "123456789012"}) {
            String good = Bars.stripesOf(row);
            for (int i = 1; i <= 3; i++) {
                dueFault("stripe -" + i + " of " + row, Bars.changed(good, good.length() - i), 2, 0);
            }
        }
    }

    /** "3 five that are no digit": all fives but the ten of the digits, black or white. */
    static void eachFiveThatIsNoDigit() {
        for (int five = 0; five < 32; five++) {
            String code = Integer.toBinaryString(32 + five).substring(1);
            if (Integer.bitCount(five) != 2) {
                dueFault("black " + code, "0000" + Bars.pairOf(code, "00110") + "100", 3, 0);
                dueFault("white " + code, "0000" + Bars.pairOf("00110", code) + "100", 3, 0);
            }
        }
    }

    /** "(the place of the first of the two digits)": of each pair, whichever of the two it is. */
    static void placeOfEachPair() {
        String good = Bars.stripesOf("123456789012");
        for (int pair = 0; pair < 6; pair++) {
            for (int k = 0; k < 10; k++) {
                dueFault("stripe " + k + " of pair " + pair, Bars.changed(good, 4 + 10 * pair + k), 3, 2 * pair);
            }
        }
    }

    /** "(the place of the first of the two digits)": of the first such pair, if there are more. */
    static void placeOfTheFirstPair() {
        String good = Bars.stripesOf("12345670");
        dueFault("pairs 1 and 3", Bars.changed(Bars.changed(good, 14), 34), 3, 2);
        dueFault("pairs 2 and 3", Bars.changed(Bars.changed(good, 43), 25), 3, 4);
    }

    /** "4 the CHECK is another one (place 0)": each other one. */
    static void eachOtherCheck() {
        for (int check = 0; check < 10; check++) {
            if (check != 7) {
                dueFault("check " + check, Bars.stripesOf("1" + check), 4, 0);
            }
            if (check != 0) {
                dueFault("check " + check + " and not 0", Bars.stripesOf("505" + check), 4, 0);
            }
        }
    }

    /** "4 the CHECK is another one (place 0)": another digit anywhere. */
    static void anotherDigit() {
        String good = "123456789012";
        for (int i = 0; i < 12; i++) {
            char other = good.charAt(i) == '9' ? '8' : (char) (good.charAt(i) + 1);
            dueFault("digit " + i, Bars.stripesOf(good.substring(0, i) + other + good.substring(i + 1)), 4, 0);
        }
    }

    /** Of more than one FAULT the one with the least number is told. */
    static void leastOfMore() {
        String noDigit = Bars.changed(Bars.stripesOf("1233"), 15);
        dueFault("3 and 4", noDigit, 3, 2);
        dueFault("2, 3 and 4", Bars.changed(noDigit, 26), 2, 0);
        int[] measures = Bars.measures(Bars.changed(noDigit, 26), 1, 2);
        measures[9] = 0;
        dueFault("1, 2, 3 and 4", measures, 1, 0);
    }

    /** "(of the reading as they come, if both can't be)": from behind it would be 3 or 4. */
    static void ofTheReadingAsTheyCome() {
        dueFault("from behind 4", Bars.reversed(Bars.stripesOf("18")), 2, 0);
        dueFault("from behind 3", Bars.reversed(Bars.changed(Bars.stripesOf("0123"), 15)), 2, 0);
    }

    /** "(of the reading as they come, if both can't be)": from behind it would be 2. */
    static void notOfTheReadingFromBehind() {
        dueFault("as they come 3", Bars.changed(Bars.stripesOf("0123"), 15), 3, 2);
        dueFault("as they come 4", Bars.stripesOf("0124"), 4, 0);
    }

    /** "Of the latest read()": each read tells anew. */
    static void ofTheLatestRead() {
        StickerPress p = new StickerPress();
        Bars.read(p, Bars.changed(Bars.stripesOf("0123"), 15), 1, 2);
        dueTold(p, "first", 3, 2, 0);
        Bars.read(p, Bars.stripesOf("18"), 1, 2);
        dueTold(p, "second", 4, 0, 0);
        Bars.read(p, Bars.reversed(Bars.stripesOf("17")), 1, 2);
        dueTold(p, "third", 0, NONE, 1);
        Bars.read(p, Bars.stripesOf("17"), 1, 2);
        dueTold(p, "fourth", 0, NONE, 0);
        p.read();
        dueTold(p, "fifth", 1, 0, 0);
    }

    /** "Of the latest read()": no other call tells a fault, not even one that is refused. */
    static void noOtherCallTellsOne() {
        StickerPress p = new StickerPress();
        Bars.read(p, Bars.changed(Bars.stripesOf("0123"), 15), 1, 2);
        Bars.bars(p, "x");
        Bars.bars(p, "1");
        Check.fit(p, "A", -1);
        Check.fit(p, "A", 5);
        p.take();
        p.end(0);
        dueTold(p, "behind other calls", 3, 2, 0);
    }
}
