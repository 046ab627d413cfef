import java.util.LinkedHashMap;
import java.util.Map;

/**
 * Two presses with the same calls, but for those whose effect is asked; a helper of the tests of promises.
 *
 * <p>Asking changes the press (the tape is used up, labels are printed), so each question has two new presses,
 * and none of them has more than the 512 calls that the document allows.
 */
final class Twins {
    private static final Map<String, Question> QUESTIONS = new LinkedHashMap<>();

    static {
        QUESTIONS.put("the tape", Twins::tapeOf);
        QUESTIONS.put("what was told last", Twins::toldLast);
        QUESTIONS.put("widths", Twins::widthsOf);
        QUESTIONS.put("shortenings", Twins::shorteningsOf);
        QUESTIONS.put("the ratio", Twins::ratioOf);
        QUESTIONS.put("the layout", Twins::layoutOf);
        QUESTIONS.put("what is printed", Twins::printedOf);
        QUESTIONS.put("labels", p -> labelsOf(p, 0, 100));
        QUESTIONS.put("later labels", p -> labelsOf(p, 100, 200));
        QUESTIONS.put("what can be spoiled", Twins::spoilAll);
        QUESTIONS.put("what can be printed", Twins::printAll);
        QUESTIONS.put("what can come", Twins::comeAll);
    }

    private Twins() {
    }

    interface Calls {
        void on(StickerPress press);
    }

    interface Truth {
        boolean of(StickerPress press);
    }

    interface Number {
        int of(StickerPress press);
    }

    private interface Question {
        String of(StickerPress press);
    }

    /** A press that was told something of all that can be told, so that a change of any of it is seen. */
    static void busy(StickerPress p) {
        p.wide('A', 7);
        p.wide(' ', 1);
        Check.shorten(p, 0, "STREET", "ST.");
        Check.shorten(p, 2, "AA", "");
        Check.shorten(p, 5, "NORTH", "N");
        p.ratio(3);
        Bars.read(p, Bars.changed(Bars.stripesOf("0123"), 15), 1, 2);
        Check.fit(p, "NORTH STREET", 30);
        p.sheet(0, 0b10110L);
        p.sheet(1, Layouts.ALL - 2);
        p.sheet(2, (1L << 39) | 3L);
        p.come(1, 3);
        p.print(0);
        p.spoil(0, 2);
        p.come(4, 2);
        p.come(1, 2);
        Check.tape(p, "A TAPE OF 24 OTHER SIGNS");
    }

    /** Nothing but what the other twin has done is done; "" or what differs. */
    static String difference(Calls ahead, Calls one, Calls other) {
        for (Map.Entry<String, Question> question : QUESTIONS.entrySet()) {
            String got = answer(question.getValue(), ahead, one);
            String want = answer(question.getValue(), ahead, other);
            if (!got.equals(want)) {
                return question.getKey() + ": " + got + " and not " + want;
            }
        }
        return "";
    }

    private static String answer(Question question, Calls ahead, Calls call) {
        StickerPress press = new StickerPress();
        ahead.on(press);
        call.on(press);
        return question.of(press);
    }

    /** False, and nothing is done. */
    static void dueFalse(Check check, String what, Calls ahead, Truth call) {
        StickerPress press = new StickerPress();
        ahead.on(press);
        check.due(what, call.of(press), false);
        check.due(what + ": nothing is done", difference(ahead, call::of, p -> { }), "");
    }

    /** False, and nothing is done but that the tape is empty then. */
    static void dueFalseAndTapeEmpty(Check check, String what, Calls ahead, Truth call) {
        StickerPress press = new StickerPress();
        ahead.on(press);
        check.due(what, call.of(press), false);
        check.due(what + ": the tape is empty, nothing else is done", difference(ahead, call::of, p -> p.end(0)), "");
    }

    /** NONE, and nothing is done. */
    static void dueNone(Check check, String what, Calls ahead, Number call) {
        StickerPress press = new StickerPress();
        ahead.on(press);
        check.due(what, call.of(press), StickerPress.NONE);
        check.due(what + ": nothing is done", difference(ahead, call::of, p -> { }), "");
    }

    /** NONE, and nothing is done (so OUT stays) but that the tape is empty then. */
    static void dueNoneAndTapeEmpty(Check check, String what, Calls ahead, Number call) {
        StickerPress press = new StickerPress();
        ahead.on(press);
        check.due(what, call.of(press), StickerPress.NONE);
        check.due(what + ": the tape is empty, all else stays", difference(ahead, call::of, p -> p.end(0)), "");
    }

    /** How long it is, and its first bytes if they are signs. */
    private static String tapeOf(StickerPress p) {
        int size = 201;
        while (size > 0 && !p.end(size)) {
            size--;
        }
        p.end(Math.min(size, 30));
        return size + " " + p.fit(999) + " " + Check.out(p);
    }

    private static String toldLast(StickerPress p) {
        return p.used() + " " + p.fault(0) + " " + p.fault(1) + " " + p.fault(2) + " " + Check.stripes(p);
    }

    private static String widthsOf(StickerPress p) {
        p.end(0);
        StringBuilder all = new StringBuilder();
        for (int sign = 32; sign <= 126; sign++) {
            all.append(Check.fit(p, "" + (char) sign, 999)).append(' ');
        }
        return all.toString();
    }

    /** What becomes of the rows of signs that the tests shorten, if they must be narrower. */
    private static String shorteningsOf(StickerPress p) {
        p.end(0);
        StringBuilder all = new StringBuilder();
        String[] rows = {"STREET", "AA", "NORTH", "A", "ABCDEF", "NORTH STREET AA"};
        for (String row : rows) {
            int width = Check.fit(p, row, 999);
            for (int narrower = width - 1; narrower >= 0 && narrower >= width - 30; narrower -= 9) {
                all.append(Check.fit(p, row, narrower)).append(p.used()).append(Check.out(p)).append(' ');
            }
        }
        return all.toString();
    }

    private static String ratioOf(StickerPress p) {
        p.end(0);
        Bars.bars(p, "4");
        return Check.stripes(p);
    }

    private static String layoutOf(StickerPress p) {
        StringBuilder all = new StringBuilder(Layouts.best(p));
        all.append(' ').append(p.look(0)).append(' ').append(p.look(1)).append(' ').append(p.look(2));
        for (int s = 0; s < 3; s++) {
            for (int c = 0; c < 40; c++) {
                all.append(' ').append(p.plan(s, c));
            }
        }
        return all.toString();
    }

    private static String printedOf(StickerPress p) {
        StringBuilder all = new StringBuilder();
        for (int s = 0; s < 3; s++) {
            for (int c = 0; c < 40; c++) {
                all.append(' ').append(p.printed(s, c));
            }
        }
        return all.toString();
    }

    private static String labelsOf(StickerPress p, int from, int to) {
        StringBuilder all = new StringBuilder();
        for (int i = from; i < to; i++) {
            all.append(' ').append(p.label(i, 0)).append(p.label(i, 1)).append(p.label(i, 2));
        }
        return all.toString();
    }

    private static String spoilAll(StickerPress p) {
        StringBuilder all = new StringBuilder();
        for (int s = 0; s < 3; s++) {
            for (int c = 0; c < 40; c++) {
                all.append(' ').append(p.spoil(s, c));
            }
        }
        return all.toString();
    }

    private static String printAll(StickerPress p) {
        return p.print(0) + " " + p.print(1) + " " + p.print(2) + printedOf(p);
    }

    private static String comeAll(StickerPress p) {
        StringBuilder all = new StringBuilder();
        for (int g = 0; g < 6; g++) {
            for (int n = 40; n > 0; n--) {
                int first = p.come(g, n);
                if (first != StickerPress.NONE) {
                    all.append(' ').append(g).append(' ').append(n).append(' ').append(first);
                    break;
                }
            }
        }
        return all.toString();
    }
}
