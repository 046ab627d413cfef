/** Stripes as texts, 0 narrow and 1 wide; a helper of the tests of bars. */
final class Bars {
    static final String[] CODES = {
        "00110", "10001", "01001", "11000", "00101", "10100", "01100", "00011", "10010", "01010"};

    private Bars() {
    }

    /** The stripes of digits that are even in number, whatever their check. */
    static String stripesOf(String digits) {
        StringBuilder all = new StringBuilder("0000");
        for (int i = 0; i < digits.length(); i += 2) {
            all.append(pairOf(CODES[digits.charAt(i) - '0'], CODES[digits.charAt(i + 1) - '0']));
        }
        return all.append("100").toString();
    }

    /** Five black and five white stripes, by turns. */
    static String pairOf(String black, String white) {
        StringBuilder all = new StringBuilder();
        for (int k = 0; k < 5; k++) {
            all.append(black.charAt(k)).append(white.charAt(k));
        }
        return all.toString();
    }

    static String widths(String stripes, int narrow, int wide) {
        return stripes.replace('1', 'w').replace('0', (char) ('0' + narrow)).replace('w', (char) ('0' + wide));
    }

    static int[] measures(String stripes, int narrow, int wide) {
        int[] bytes = new int[stripes.length()];
        for (int i = 0; i < bytes.length; i++) {
            bytes[i] = stripes.charAt(i) == '1' ? wide : narrow;
        }
        return bytes;
    }

    static int read(StickerPress p, String stripes, int narrow, int wide) {
        Check.tape(p, measures(stripes, narrow, wide));
        return p.read();
    }

    static int bars(StickerPress p, String digits) {
        Check.tape(p, digits);
        return p.bars();
    }

    static String reversed(String text) {
        return new StringBuilder(text).reverse().toString();
    }

    /** With one stripe the other way. */
    static String changed(String text, int i) {
        char other = text.charAt(i) == '1' ? '0' : '1';
        return text.substring(0, i) + other + text.substring(i + 1);
    }
}
