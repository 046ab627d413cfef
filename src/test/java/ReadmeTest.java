import java.io.IOException;
import java.lang.reflect.Method;
import java.lang.reflect.Modifier;
import java.nio.file.Files;
import java.nio.file.Path;
import java.util.ArrayList;
import java.util.Comparator;
import java.util.List;
import java.util.Set;
import java.util.TreeSet;
import java.util.regex.Matcher;
import java.util.regex.Pattern;
import java.util.stream.Collectors;
import java.util.stream.Stream;
import javax.tools.ToolProvider;

/** What README.md shows of the class is so when it is run, and it leaves out no call and no test. */
public final class ReadmeTest {
    private static final Check CHECK = new Check("ReadmeTest");
    private static final Path TESTS = Path.of("src/test/java");
    private static final String MAKES = "StickerPress press = new StickerPress();";
    private static final Pattern CALL =
        Pattern.compile("press\\.(\\w+)\\(((?:[^()']|'.')*)\\);\\s+// (true|false|-?\\d+)(?:: (.+))?");

    /** A line of the example: a call, the answer that stands behind it, and what is said of it. */
    private static final class Line {
        final String source;
        final Method method;
        final Object[] arguments;
        final String answer;
        final String words;

        Line(Matcher matcher) {
            source = matcher.group();
            String inside = matcher.group(2).trim();
            String[] written = inside.isEmpty() ? new String[0] : inside.split("\\s*,\\s*");
            method = methodOf(matcher.group(1), written.length);
            arguments = new Object[written.length];
            for (int i = 0; i < written.length; i++) {
                boolean isLong = method.getParameterTypes()[i] == long.class;
                arguments[i] = isLong ? (Object) numberOf(written[i]) : (Object) Math.toIntExact(numberOf(written[i]));
            }
            answer = matcher.group(3);
            words = matcher.group(4) == null ? "" : matcher.group(4);
        }

        String run(StickerPress press) throws ReflectiveOperationException {
            return String.valueOf(method.invoke(press, arguments));
        }
    }

    public static void main(String[] args) throws Exception {
        CHECK.runAll(ReadmeTest.class);
    }

    /** Each call of the example answers what stands behind it; where OUT or the TAPE is told, it is that. */
    static void exampleAnswersAsItSays() throws Exception {
        List<Line> lines = example();
        StickerPress press = new StickerPress();
        for (int i = 0; i < lines.size(); i++) {
            Line line = lines.get(i);
            CHECK.due(line.source, line.run(press), line.answer);
            String out = quoted("OUT", line.words);
            if (out != null) {
                CHECK.due(line.source, Check.out(press), out);
            }
            String tape = quoted("the TAPE", line.words);
            if (tape != null) {
                CHECK.due(line.source, tapeBehind(lines.subList(0, i + 1)), tape);
            }
        }
    }

    /** The example shows each call, and has no line that this test would pass over. */
    static void exampleShowsEachCall() throws Exception {
        Set<String> shown = example().stream().map(line -> line.method.getName()).collect(Collectors.toCollection(TreeSet::new));
        CHECK.due("calls in the example", shown.toString(), publicMethods().toString());
    }

    /** The example is Java as it stands. */
    static void exampleCompiles() throws Exception {
        Path work = Files.createTempDirectory("readme");
        Path file = work.resolve("Example.java");
        Files.writeString(file, "class Example { static void run() {\n" + block("java", 0) + "} }\n");
        int answer = ToolProvider.getSystemJavaCompiler().run(null, null, null, "--release", "17", "-d", work.toString(),
            "src/main/java/StickerPress.java", file.toString());
        CHECK.due("javac", answer, 0);
        deleteAll(work);
    }

    /** The table has a row for each call, with as many parameters as it has. */
    static void tableHasEachCall() throws Exception {
        Set<String> rows = new TreeSet<>();
        Matcher matcher = Pattern.compile("(?m)^\\| `(\\w+)\\(([^)]*)\\)` \\|").matcher(readme());
        while (matcher.find()) {
            int parameters = matcher.group(2).isEmpty() ? 0 : matcher.group(2).split(",").length;
            rows.add(methodOf(matcher.group(1), parameters).getName());
        }
        CHECK.due("calls in the table", rows.toString(), publicMethods().toString());
    }

    /** Each test that is there is named, and each that is named is there. */
    static void namesEachTest() throws Exception {
        Set<String> named = new TreeSet<>();
        Matcher matcher = Pattern.compile("`(\\w+Test)`").matcher(readme());
        while (matcher.find()) {
            named.add(matcher.group(1));
            CHECK.due(matcher.group(1) + " is there", Files.exists(TESTS.resolve(matcher.group(1) + ".java")), true);
        }
        for (String test : testsThatAreThere()) {
            boolean inRange = test.matches("Promise\\d\\d\\w+Test");
            CHECK.due(test + " is named", inRange || named.contains(test), true);
        }
        CHECK.due("the range is named", readme().contains("`Promise01NewObjectTest` .. `Promise22LabelTest`"), true);
    }

    /** The files and the script that the commands name are there. */
    static void commandsNameWhatIsThere() throws Exception {
        CHECK.due("javac is told", block("sh", 0).trim(), "javac -d classes src/main/java/StickerPress.java");
        CHECK.due("the class is there", Files.exists(Path.of("src/main/java/StickerPress.java")), true);
        CHECK.due("the script is told", block("sh", 1).trim(), ".ci/run");
        CHECK.due("the script can be run", Files.isExecutable(Path.of(".ci/run")), true);
    }

    private static String readme() throws IOException {
        return Files.readString(Path.of("README.md"));
    }

    /** What stands in the block of that kind with that number; empty if there is none. */
    private static String block(String kind, int number) throws IOException {
        Matcher matcher = Pattern.compile("(?s)```" + kind + "\n(.*?)```").matcher(readme());
        for (int i = 0; matcher.find(); i++) {
            if (i == number) {
                return matcher.group(1);
            }
        }
        return "";
    }

    private static List<Line> example() throws IOException {
        List<Line> lines = new ArrayList<>();
        String[] written = block("java", 0).split("\n");
        CHECK.due("it begins with a new object", written[0], MAKES);
        for (int i = 1; i < written.length; i++) {
            Matcher matcher = CALL.matcher(written[i]);
            if (matcher.matches()) {
                lines.add(new Line(matcher));
            } else {
                CHECK.due("no call: " + written[i], written[i].isEmpty() || written[i].startsWith("// "), true);
            }
        }
        return lines;
    }

    /** What is told in quotes of the thing, or null. */
    private static String quoted(String thing, String words) {
        Matcher matcher = Pattern.compile(thing + " is \"([^\"]*)\"").matcher(words);
        return matcher.find() ? matcher.group(1) : null;
    }

    /** The TAPE can't be asked for; but a text that is fitted to a great width is OUT as it was. */
    private static String tapeBehind(List<Line> lines) throws ReflectiveOperationException {
        StickerPress press = new StickerPress();
        for (Line line : lines) {
            line.run(press);
        }
        press.fit(999);
        return Check.out(press);
    }

    private static long numberOf(String written) {
        if (written.startsWith("'")) {
            return written.charAt(1);
        }
        if (written.startsWith("0b")) {
            return Long.parseLong(written.substring(2), 2);
        }
        return Long.decode(written);
    }

    private static void deleteAll(Path folder) throws IOException {
        try (Stream<Path> files = Files.walk(folder)) {
            for (Path file : files.sorted(Comparator.reverseOrder()).collect(Collectors.toList())) {
                Files.delete(file);
            }
        }
    }

    private static Method methodOf(String name, int parameters) {
        for (Method method : StickerPress.class.getDeclaredMethods()) {
            boolean isPublic = Modifier.isPublic(method.getModifiers());
            if (isPublic && method.getName().equals(name) && method.getParameterCount() == parameters) {
                return method;
            }
        }
        throw new IllegalArgumentException("there is no call " + name + " with " + parameters + " parameters");
    }

    private static Set<String> publicMethods() {
        Set<String> names = new TreeSet<>();
        for (Method method : StickerPress.class.getDeclaredMethods()) {
            if (Modifier.isPublic(method.getModifiers())) {
                names.add(method.getName());
            }
        }
        return names;
    }

    private static List<String> testsThatAreThere() throws IOException {
        try (Stream<Path> files = Files.list(TESTS)) {
            return files.map(file -> file.getFileName().toString()).filter(name -> name.endsWith("Test.java"))
                .map(name -> name.substring(0, name.length() - ".java".length())).sorted().collect(Collectors.toList());
        }
    }
}
