import java.lang.reflect.InvocationTargetException;
import java.lang.reflect.Method;
import java.lang.reflect.Modifier;
import java.util.Arrays;
import java.util.Comparator;

/** Counts and prints the answers that are not as due; no test itself. */
final class Check {
    /** Above what OUT can have, so that an OUT without an end fails a test and does not hang it. */
    private static final int MOST_OUT = 100;

    private final String file;
    private String test;
    private int asked;
    private int wrong;

    Check(String file) {
        this.file = file;
        test = file;
    }

    /** Runs all tests of a class, so that none is forgotten: its static methods without parameters. Then closes. */
    void runAll(Class<?> tests) throws IllegalAccessException {
        Method[] methods = tests.getDeclaredMethods();
        Arrays.sort(methods, Comparator.comparing(Method::getName));
        for (Method method : methods) {
            boolean isTest = Modifier.isStatic(method.getModifiers()) && !method.isSynthetic()
                && method.getParameterCount() == 0 && method.getReturnType() == void.class;
            if (isTest) {
                runOne(method);
            }
        }
        test = file;
        close();
    }

    private void runOne(Method method) throws IllegalAccessException {
        test = file + "." + method.getName();
        int before = asked;
        try {
            method.invoke(null);
        } catch (InvocationTargetException thrown) {
            wrong++;
            System.out.println(test + ": threw " + thrown.getCause());
        }
        if (asked == before) {
            wrong++;
            System.out.println(test + ": asked nothing");
        }
    }

    void due(String what, long got, long want) {
        asked++;
        if (got != want) {
            wrong++;
            System.out.println(test + ": " + what + " answered " + got + ", due is " + want);
        }
    }

    void due(String what, boolean got, boolean want) {
        due(what, got ? 1 : 0, want ? 1 : 0);
    }

    void due(String what, String got, String want) {
        asked++;
        if (!got.equals(want)) {
            wrong++;
            System.out.println(test + ": " + what + " answered '" + got + "', due is '" + want + "'");
        }
    }

    int wrong() {
        return wrong;
    }

    /** Ends the test, with exit code 1 if an answer was wrong. */
    void close() {
        System.out.println(test + ": " + asked + " answers, " + wrong + " wrong");
        if (wrong != 0 || asked == 0) {
            System.exit(1);
        }
    }

    /** Lays the bytes behind a tape that is empty. */
    static void tape(StickerPress press, int... bytes) {
        for (int start = 0; start < bytes.length; start += 20) {
            int[] five = new int[5];
            for (int i = 0; i < 20; i++) {
                int b = start + i < bytes.length ? bytes[start + i] & 255 : 0;
                five[i / 4] |= b << (24 - 8 * (i % 4));
            }
            press.feed(five[0], five[1], five[2], five[3], five[4]);
        }
        press.end(bytes.length);
    }

    static void tape(StickerPress press, String text) {
        tape(press, bytesOf(text));
    }

    static int[] bytesOf(String text) {
        return text.chars().toArray();
    }

    static boolean shorten(StickerPress press, int i, String from, String to) {
        tape(press, from + to);
        return press.shorten(i, from.length());
    }

    static int fit(StickerPress press, String text, int width) {
        tape(press, text);
        return press.fit(width);
    }

    /** All of OUT, as a text. */
    static String out(StickerPress press) {
        StringBuilder all = new StringBuilder();
        int b = press.out(0);
        for (int i = 1; i <= MOST_OUT && b != StickerPress.NONE; i++) {
            all.append((char) b);
            b = press.out(i);
        }
        return all.toString();
    }

    /** All of OUT, as widths of stripes. */
    static String stripes(StickerPress press) {
        StringBuilder all = new StringBuilder();
        int width = press.out(0);
        for (int i = 1; i <= MOST_OUT && width != StickerPress.NONE; i++) {
            all.append(width);
            width = press.out(i);
        }
        return all.toString();
    }
}
