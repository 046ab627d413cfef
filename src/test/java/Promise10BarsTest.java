/** Promise 10: bars, and the terms BARS, CHECK and STRIPES. */
public final class Promise10BarsTest {
    private static final Check CHECK = new Check("Promise10BarsTest");

    public static void main(String[] args) throws Exception {
        CHECK.runAll(Promise10BarsTest.class);
    }

    private static void dueRefused(String what, String tape) {
        Twins.Calls ahead = p -> {
            Twins.busy(p);
            p.end(0);
            Check.tape(p, tape);
        };
        Twins.dueNoneAndTapeEmpty(CHECK, what, ahead, p -> p.bars());
    }

    /** The bars of a row are those of all digits, the check and a 0 ahead among them. */
    private static void dueBars(String row, String all) {
        for (int ratio = 2; ratio <= 3; ratio++) {
            StickerPress p = new StickerPress();
            p.ratio(ratio);
            CHECK.due("bars of " + row, Bars.bars(p, row), 7 + 5 * all.length());
            CHECK.due("stripes of " + row, Check.stripes(p), Bars.widths(Bars.stripesOf(all), 1, ratio));
        }
    }

    /** "a row of 1 to 11 digits": each length. */
    static void eachLength() {
        int[] stripes = {17, 27, 27, 37, 37, 47, 47, 57, 57, 67, 67};
        for (int n = 1; n <= 11; n++) {
            CHECK.due("digits " + n, Bars.bars(new StickerPress(), "12345678901".substring(0, n)), stripes[n - 1]);
        }
    }

    /** "it is no such row of digits (OUT stays)": the tape is empty. */
    static void emptyTape() {
        dueRefused("bars of nothing", "");
    }

    /** "it is no such row of digits (OUT stays)": too many. */
    static void tooManyDigits() {
        dueRefused("bars of 12", "123456789012");
        dueRefused("bars of 13", "1234567890123");
        dueRefused("bars of 200", "1".repeat(200));
    }

    /** "it is no such row of digits (OUT stays)": other bytes, those beside the digits first. */
    static void otherBytes() {
        for (int other : new int[] {'0' - 1, '9' + 1, 0, 1, 9, ' ', '-', 'A', '1' + 128, 255}) {
            dueRefused("bars of byte " + other, "" + (char) other);
            dueRefused("bars of first byte " + other, (char) other + "12");
            dueRefused("bars of last byte " + other, "12" + (char) other);
        }
    }

    /** "BARS of the TAPE (empty then)". */
    static void tapeIsEmptyThen() {
        StickerPress p = new StickerPress();
        Bars.bars(p, "123");
        CHECK.due("end 1", p.end(1), false);
        CHECK.due("feed", p.feed(0, 0, 0, 0, 0), 20);
    }

    /** "OUT has their widths": nothing of a longer OUT ahead, and nothing else is told. */
    static void outHasTheirWidths() {
        StickerPress p = new StickerPress();
        Check.fit(p, "A".repeat(30), 999);
        Bars.bars(p, "1");
        CHECK.due("stripes", Check.stripes(p), "11112111111222211");
        CHECK.due("used stays", p.used(), 0);
        CHECK.due("fault stays", p.fault(0), 0);
    }

    /** "what lacks to a multiple of 10 from the sum": each check; nothing lacks to one that is a multiple itself. */
    static void eachCheck() {
        String[] rows = {"00", "17", "24", "31", "48", "55", "62", "79", "86", "93"};
        for (String row : rows) {
            dueBars(row.substring(0, 1), row);
        }
    }

    /** "what lacks to a multiple of 10": the sum is one that is not 0, so the check is 0. */
    static void sumIsAMultipleOfTen() {
        dueBars("13", "0130");
        dueBars("71", "0710");
        dueBars("505", "5050");
        dueBars("109", "1090");
    }

    /** "the last one, the third last .. three times each": from the last one on, so by places from behind. */
    static void threeTimesFromTheLast() {
        dueBars("001", "0017");
        dueBars("010", "0109");
        dueBars("100", "1007");
        dueBars("1000", "010009");
        dueBars("10000000000", "100000000007");
        dueBars("01000000000", "010000000009");
        dueBars("99999999999", "999999999993");
    }

    /** "If they are odd in number then, a 0 comes ahead": with the check. */
    static void noughtAheadOfAnOddNumber() {
        dueBars("12", "0123");
        dueBars("1234", "012348");
        dueBars("1234567890", "012345678905");
        dueBars("00", "0000");
    }

    /** If they are even in number with the check, no 0 comes ahead. */
    static void noNoughtAheadOfAnEvenNumber() {
        dueBars("123", "1236");
        dueBars("12345", "123457");
        dueBars("12345678901", "123456789012");
    }

    /** "four narrow; .. then a wide black, a narrow white, a narrow black one". */
    static void beginningAndEnd() {
        StickerPress p = new StickerPress();
        p.ratio(3);
        Bars.bars(p, "123");
        String stripes = Check.stripes(p);
        CHECK.due("the beginning", stripes.substring(0, 4), "1111");
        CHECK.due("the end", stripes.substring(24), "311");
    }

    /** "0 00110, 1 10001 ..": each digit black and each digit white, as the document writes them. */
    static void eachDigit() {
        String codes = "00110 10001 01001 11000 00101 10100 01100 00011 10010 01010";
        for (int d = 0; d < 10; d++) {
            StickerPress p = new StickerPress();
            Bars.bars(p, d + "" + d + "0");
            String stripes = Check.stripes(p).substring(4, 14);
            StringBuilder black = new StringBuilder();
            StringBuilder white = new StringBuilder();
            for (int k = 0; k < 5; k++) {
                black.append(stripes.charAt(2 * k) == '2' ? 1 : 0);
                white.append(stripes.charAt(2 * k + 1) == '2' ? 1 : 0);
            }
            CHECK.due("black " + d, black.toString(), codes.substring(6 * d, 6 * d + 5));
            CHECK.due("white " + d, white.toString(), codes.substring(6 * d, 6 * d + 5));
        }
    }

    /** "those of the first one black, those of the second white". */
    static void firstBlackSecondWhite() {
        StickerPress p = new StickerPress();
        Bars.bars(p, "370");
        CHECK.due("3 by 7", Check.stripes(p).substring(4, 14), "2121111212");
    }
}
