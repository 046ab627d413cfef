import java.lang.reflect.Constructor;
import java.lang.reflect.Field;
import java.lang.reflect.Member;
import java.lang.reflect.Method;
import java.lang.reflect.Modifier;
import java.nio.file.Files;
import java.nio.file.Path;
import java.util.Arrays;
import java.util.Set;
import java.util.TreeSet;
import java.util.regex.Matcher;
import java.util.regex.Pattern;

/** The face of the class is the document's and no more, and the rules of LANGUAGE.md that can be seen are kept. */
public final class FaceTest {
    private static final Check CHECK = new Check("FaceTest");
    private static final String[] FACE = {
        "boolean wide(int, int)", "int feed(int, int, int, int, int)", "boolean end(int)", "boolean shorten(int, int)",
        "int fit(int)", "int used()", "int out(int)", "boolean ratio(int)", "int bars()", "int read()", "int fault(int)",
        "int take()", "boolean sheet(int, long)", "int come(int, int)", "int look(int)", "int heap(int, int)",
        "int plan(int, int)", "int print(int)", "int printed(int, int)", "int spoil(int, int)", "int label(int, int)"};

    public static void main(String[] args) throws Exception {
        face();
        rest();
        for (Class<?> inside : StickerPress.class.getDeclaredClasses()) {
            inside(inside);
        }
        words();
        constructors();
        CHECK.close();
    }

    private static void face() {
        Set<String> found = new TreeSet<>();
        for (Method method : StickerPress.class.getDeclaredMethods()) {
            if (Modifier.isPublic(method.getModifiers())) {
                String types = Arrays.toString(Arrays.stream(method.getParameterTypes()).map(Class::getName).toArray());
                found.add(method.getReturnType() + " " + method.getName() + "(" + types.substring(1, types.length() - 1) + ")");
                CHECK.due(method.getName() + " is of the object", Modifier.isStatic(method.getModifiers()), false);
            }
        }
        CHECK.due("public methods", found.toString(), new TreeSet<>(Arrays.asList(FACE)).toString());
        int modifiers = StickerPress.class.getModifiers();
        CHECK.due("the class is public and final", Modifier.isPublic(modifiers) && Modifier.isFinal(modifiers), true);
        Constructor<?>[] makers = StickerPress.class.getDeclaredConstructors();
        CHECK.due("constructors", makers.length, 1);
        CHECK.due("its parameters", makers[0].getParameterCount(), 0);
        CHECK.due("it is public", Modifier.isPublic(makers[0].getModifiers()), true);
        CHECK.due("NONE", StickerPress.NONE, -1);
    }

    private static void rest() {
        Set<String> names = new TreeSet<>();
        for (String one : FACE) {
            names.add(one.substring(one.indexOf(' ') + 1, one.indexOf('(')));
        }
        for (Method method : StickerPress.class.getDeclaredMethods()) {
            if (!Modifier.isPublic(method.getModifiers())) {
                CHECK.due(method.getName() + " is private", isPrivate(method), true);
                CHECK.due(method.getName() + " has a name of its own", names.contains(method.getName()), false);
            }
        }
        for (Field field : StickerPress.class.getDeclaredFields()) {
            boolean none = field.getName().equals("NONE");
            CHECK.due(field.getName() + " is private", isPrivate(field), !none);
            CHECK.due(field.getName() + " is final", Modifier.isFinal(field.getModifiers()), true);
        }
    }

    private static boolean isPrivate(Member member) {
        return Modifier.isPrivate(member.getModifiers());
    }

    private static void inside(Class<?> inside) {
        CHECK.due(inside.getName() + " is static", Modifier.isStatic(inside.getModifiers()), true);
        CHECK.due(inside.getName() + " is not public", Modifier.isPublic(inside.getModifiers()), false);
        int fields = 0;
        for (Field field : inside.getDeclaredFields()) {
            if (Modifier.isStatic(field.getModifiers())) {
                CHECK.due(field + " is final", Modifier.isFinal(field.getModifiers()), true);
            } else {
                fields++;
            }
        }
        CHECK.due(inside.getName() + " has at most twenty fields", fields <= 20, true);
        for (Method method : inside.getDeclaredMethods()) {
            CHECK.due(method + " has at most seven parameters", method.getParameterCount() <= 7, true);
        }
    }

    /** The source without its comments. */
    private static String code() throws Exception {
        String source = Files.readString(Path.of("src/main/java/StickerPress.java"));
        return source.replaceAll("(?s)/\\*.*?\\*/", "").replaceAll("//.*", "");
    }

    private static void words() throws Exception {
        String code = code();
        String[] forbidden = {"\\bthrow\\b", "\\btry\\b", "\\bcatch\\b", "\\bsynchronized\\b", "\\bassert\\b", "->", "::",
            "\\bimport\\b", "\\bpackage\\b", "\\bObject\\b", "Exact\\b", "\\bSystem\\.(?!arraycopy)", "\"", "@"};
        for (String word : forbidden) {
            Matcher matcher = Pattern.compile(word).matcher(code);
            CHECK.due("the code has " + word, matcher.find(), false);
        }
        CHECK.due("the code is found", code.contains("public final class StickerPress"), true);
        CHECK.due("at most twelve classes", StickerPress.class.getDeclaredClasses().length <= 11, true);
    }

    /** Rule 12: a constructor hands out nothing of the object that it makes, so others are made of constants alone. */
    private static void constructors() throws Exception {
        Matcher made = Pattern.compile("\\bnew [A-Z]\\w*\\(([^;]*)\\);").matcher(code());
        int found = 0;
        while (made.find()) {
            found++;
            CHECK.due(made.group() + " has constants", made.group(1).matches("(true|false|[A-Z0-9_ *+]*)"), true);
        }
        CHECK.due("objects are made", found > 0, true);
        CHECK.due("the object itself is handed out", Pattern.compile("\\bthis\\b(?!\\.)").matcher(code()).find(), false);
    }
}
