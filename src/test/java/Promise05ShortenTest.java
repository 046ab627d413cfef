/** Promise 5: shorten. */
public final class Promise05ShortenTest {
    private static final Check CHECK = new Check("Promise05ShortenTest");
    private static final int NONE = StickerPress.NONE;

    public static void main(String[] args) throws Exception {
        CHECK.runAll(Promise05ShortenTest.class);
    }

    /** A busy press: shortenings 0, 2, 5 are told, 1, 3, 4 are not. */
    private static void dueRefused(int i, int n, String tape) {
        Twins.Calls ahead = p -> {
            Twins.busy(p);
            p.end(0);
            Check.tape(p, tape);
        };
        String call = "shorten " + i + " " + n + " of " + tape.length() + " bytes";
        Twins.dueFalseAndTapeEmpty(CHECK, call, ahead, p -> p.shorten(i, n));
    }

    private static void dueRefusedOfAll(int n, String tape) {
        for (int i = 0; i < 6; i++) {
            dueRefused(i, n, tape);
        }
    }

    private static void dueShortens(StickerPress p, String text, String to) {
        String what = "'" + text + "' narrower";
        CHECK.due(what, Check.fit(p, text, 5 * text.length() - 1), 5 * to.length());
        CHECK.due(what + ", out", Check.out(p), to);
    }

    /** "SHORTENING i": each of 0 .. 5, and that one alone. */
    static void eachOne() {
        for (int i = 0; i < 6; i++) {
            StickerPress p = new StickerPress();
            CHECK.due("shorten " + i, Check.shorten(p, i, "STREET", "ST."), true);
            dueShortens(p, "STREET", "ST.");
            CHECK.due("used " + i, p.used(), 1 << i);
        }
    }

    /** "False ..: no such i": too small. */
    static void numberTooSmall() {
        dueRefused(-1, 1, "AB");
        dueRefused(-1, 0, "");
        dueRefused(Integer.MIN_VALUE, 1, "AB");
        dueRefused(Integer.MIN_VALUE, 0, "");
    }

    /** "False ..: no such i": too large, and not taken around (32 and 64 are 0 as shifts). */
    static void numberTooLarge() {
        for (int i : new int[] {6, 7, 32, 34, 64, 256, Integer.MAX_VALUE}) {
            dueRefused(i, 1, "AB");
            dueRefused(i, 0, "");
        }
    }

    /** "a row of 1 to 6 SIGNS FROM": each length. */
    static void eachLengthOfFrom() {
        for (int n = 1; n <= 6; n++) {
            StickerPress p = new StickerPress();
            String from = "ABCDEF".substring(0, n);
            CHECK.due("shorten of " + n, Check.shorten(p, 3, from, ""), true);
            dueShortens(p, from, "");
            CHECK.due("the one sign less stays", Check.fit(p, from.substring(1), 5 * n - 6), NONE);
        }
    }

    /** "False ..: no such .. n": 0 with bytes on the tape. */
    static void noFromWithATape() {
        dueRefusedOfAll(0, "A");
        dueRefusedOfAll(0, "ABCDEF");
    }

    /** "False ..: no such .. n": below 0, with bytes or none. */
    static void fromBelowZero() {
        for (int n : new int[] {-1, -6, Integer.MIN_VALUE}) {
            dueRefusedOfAll(n, "AB");
            dueRefusedOfAll(n, "");
        }
    }

    /** "False ..: no such .. n": FROM has more than 6, with a TO or without one. */
    static void fromTooLong() {
        dueRefusedOfAll(7, "ABCDEFG");
        dueRefusedOfAll(7, "ABCDEFGH");
        dueRefusedOfAll(13, "ABCDEFGHIJKLM");
    }

    /** "False ..: no such .. n": the tape has not so many. */
    static void tapeHasNotSoMany() {
        dueRefusedOfAll(3, "AB");
        dueRefusedOfAll(6, "ABCDE");
        dueRefusedOfAll(1, "");
        dueRefusedOfAll(6, "");
        dueRefusedOfAll(Integer.MAX_VALUE, "AB");
    }

    /** "one of 0 to 6 TO": each length. */
    static void eachLengthOfTo() {
        for (int n = 0; n <= 6; n++) {
            StickerPress p = new StickerPress();
            String to = "uvwxyz".substring(0, n);
            p.wide('A', 20);
            for (int sign = 'u'; sign <= 'z'; sign++) {
                p.wide(sign, 1);
            }
            CHECK.due("shorten to " + n, Check.shorten(p, 4, "A", to), true);
            CHECK.due("narrower", Check.fit(p, "A", 19), n);
            CHECK.due("out", Check.out(p), to);
        }
    }

    /** Six FROM and six TO are the most that can be. */
    static void mostOfBoth() {
        StickerPress p = new StickerPress();
        p.wide('u', 4);
        CHECK.due("shorten", Check.shorten(p, 0, "ABCDEF", "uvwxyz"), true);
        CHECK.due("narrower", Check.fit(p, "ABCDEF", 29), 29);
        CHECK.due("out", Check.out(p), "uvwxyz");
    }

    /** "it has .. too many": more than 6 behind FROM. */
    static void toTooLong() {
        for (int n = 1; n <= 6; n++) {
            dueRefusedOfAll(n, "ABCDEFGHIJKLM".substring(0, n + 7));
        }
        dueRefusedOfAll(6, "A".repeat(200));
    }

    /** "it has other bytes than SIGNS": in FROM, first or last of it. */
    static void otherBytesInFrom() {
        for (int other : new int[] {0, 31, 127, 128, 32 + 128, 65 + 128, 255}) {
            dueRefusedOfAll(2, (char) other + "AB");
            dueRefusedOfAll(2, "A" + (char) other + "B");
            dueRefusedOfAll(1, "" + (char) other);
        }
    }

    /** "it has other bytes than SIGNS": in TO, first or last of it. */
    static void otherBytesInTo() {
        for (int other : new int[] {0, 31, 127, 128, 32 + 128, 65 + 128, 255}) {
            dueRefusedOfAll(1, "A" + (char) other + "B");
            dueRefusedOfAll(1, "AB" + (char) other);
        }
    }

    /** The blank and 126 are the SIGNS at the ends. */
    static void signsAtTheEnds() {
        StickerPress p = new StickerPress();
        CHECK.due("from", Check.shorten(p, 0, "~ ", "!"), true);
        CHECK.due("narrower", Check.fit(p, "A~ ", 12), 10);
        CHECK.due("out", Check.out(p), "A!");
        CHECK.due("to", Check.shorten(p, 0, "!!!", " ~"), true);
        CHECK.due("narrower again", Check.fit(p, "!!!", 14), 8);
        CHECK.due("out again", Check.out(p), " ~");
    }

    /** "the TAPE, empty then": behind one that was told. */
    static void tapeIsEmptyThen() {
        StickerPress p = new StickerPress();
        Check.shorten(p, 0, "STREET", "ST.");
        CHECK.due("end 1", p.end(1), false);
        CHECK.due("feed", p.feed(0, 0, 0, 0, 0), 20);
    }

    /** "(n 0 with an empty TAPE: there is none.)": of one that was told. */
    static void toldOneIsGone() {
        StickerPress p = new StickerPress();
        for (int i = 0; i < 6; i++) {
            Check.shorten(p, i, "" + (char) ('a' + i), "");
        }
        for (int i = 0; i < 6; i++) {
            CHECK.due("shorten " + i, p.shorten(i, 0), true);
            CHECK.due("it is gone", Check.fit(p, "" + (char) ('a' + i), 0), NONE);
            for (int k = i + 1; k < 6; k++) {
                CHECK.due("another one stays", Check.fit(p, "" + (char) ('a' + k), 0), 0);
            }
        }
    }

    /** "(n 0 with an empty TAPE: there is none.)": there was none. */
    static void noneIsNoneStill() {
        for (int i : new int[] {1, 3, 4}) {
            StickerPress p = new StickerPress();
            CHECK.due("shorten " + i, p.shorten(i, 0), true);
            Twins.Calls ahead = q -> { Twins.busy(q); q.end(0); };
            CHECK.due("nothing changes", Twins.difference(ahead, q -> q.shorten(i, 0), q -> { }), "");
        }
    }

    /** A SHORTENING that is told anew has nothing of the one ahead, though that was longer. */
    static void toldAnew() {
        StickerPress p = new StickerPress();
        Check.shorten(p, 2, "ABCDEF", "uvwxyz");
        CHECK.due("shorten", Check.shorten(p, 2, "AB", "c"), true);
        dueShortens(p, "ABAB", "cc");
        CHECK.due("shorten to none", Check.shorten(p, 2, "A", ""), true);
        dueShortens(p, "ABAB", "BB");
        p.shorten(2, 0);
        CHECK.due("gone", Check.fit(p, "ABAB", 19), NONE);
        CHECK.due("told behind that", Check.shorten(p, 2, "B", ""), true);
        dueShortens(p, "ABAB", "AA");
    }
}
