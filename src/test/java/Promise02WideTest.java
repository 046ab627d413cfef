/** Promise 2: wide. */
public final class Promise02WideTest {
    private static final Check CHECK = new Check("Promise02WideTest");

    public static void main(String[] args) throws Exception {
        CHECK.runAll(Promise02WideTest.class);
    }

    private static int widthOf(StickerPress p, int sign) {
        return Check.fit(p, "" + (char) sign, 999);
    }

    private static void dueRefused(int sign, int w) {
        String call = "wide " + sign + " " + w;
        Twins.dueFalse(CHECK, call, p -> { }, p -> p.wide(sign, w));
        Twins.dueFalse(CHECK, call + " of a busy press", Twins::busy, p -> p.wide(sign, w));
    }

    /** "A SIGN (32 .. 126)": the least one is the blank. */
    static void leastSign() {
        StickerPress p = new StickerPress();
        CHECK.due("wide", p.wide(32, 9), true);
        CHECK.due("the blank", widthOf(p, 32), 9);
        CHECK.due("the one above", widthOf(p, 33), 5);
    }

    /** "A SIGN (32 .. 126)": the greatest one. */
    static void greatestSign() {
        StickerPress p = new StickerPress();
        CHECK.due("wide", p.wide(126, 9), true);
        CHECK.due("the greatest", widthOf(p, 126), 9);
        CHECK.due("the one below", widthOf(p, 125), 5);
    }

    /** "A SIGN is w wide": that one, and no other. */
    static void eachSignAlone() {
        for (int sign = 32; sign <= 126; sign++) {
            StickerPress p = new StickerPress();
            CHECK.due("wide " + sign, p.wide(sign, 11), true);
            for (int other = 32; other <= 126; other++) {
                CHECK.due("width of " + other, widthOf(p, other), other == sign ? 11 : other == 32 ? 3 : 5);
            }
        }
    }

    /** "they are 1 .. 20 wide": each of these widths. */
    static void eachWidth() {
        StickerPress p = new StickerPress();
        for (int w = 1; w <= 20; w++) {
            CHECK.due("wide 65 " + w, p.wide(65, w), true);
            CHECK.due("width", widthOf(p, 65), w);
        }
        CHECK.due("the least again", p.wide(65, 1), true);
        CHECK.due("width again", widthOf(p, 65), 1);
    }

    /** "false, and nothing is done, if one can't be": the sign is too small. */
    static void signTooSmall() {
        dueRefused(31, 5);
        dueRefused(0, 5);
        dueRefused(-1, 5);
        dueRefused(-65, 5);
        dueRefused(Integer.MIN_VALUE, 5);
    }

    /** "false, and nothing is done, if one can't be": the sign is too large, and isn't taken as a byte. */
    static void signTooLarge() {
        dueRefused(127, 6);
        dueRefused(128, 6);
        dueRefused(255, 6);
        dueRefused(256 + 66, 6);
        dueRefused(65536 + 66, 6);
        dueRefused(Integer.MAX_VALUE, 6);
    }

    /** "false, and nothing is done, if one can't be": the width is too small. */
    static void widthTooSmall() {
        dueRefused(66, 0);
        dueRefused(66, -1);
        dueRefused(66, Integer.MIN_VALUE);
    }

    /** "false, and nothing is done, if one can't be": the width is too large. */
    static void widthTooLarge() {
        dueRefused(66, 21);
        dueRefused(66, 256 + 6);
        dueRefused(66, Integer.MAX_VALUE);
    }

    /** "false, and nothing is done, if one can't be": neither can be. */
    static void signAndWidthCanNotBe() {
        dueRefused(31, 0);
        dueRefused(127, 21);
    }
}
