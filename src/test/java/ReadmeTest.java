import java.io.File;
import java.lang.reflect.Method;
import java.lang.reflect.Modifier;
import java.net.URL;
import java.net.URLClassLoader;
import java.nio.file.Files;
import java.nio.file.Path;
import java.util.ArrayList;
import java.util.List;
import java.util.Set;
import java.util.TreeSet;
import java.util.regex.Matcher;
import java.util.regex.Pattern;
import javax.tools.ToolProvider;

/** The calls that README.md shows answer as it says; they are compiled as they stand there. */
final class ReadmeTest {
    private static final Pattern EXAMPLE = Pattern.compile("(?s)```java\n(.*?)```");
    private static final String NEW_BOOK = "RankBook book = new RankBook();";
    private static final Pattern CALL =
            Pattern.compile("(book\\.(\\w+)\\([^()]*\\));\\s+// -> (NONE|true|false|-?\\d+)(:.*)?");
    private static final Checks C = new Checks("ReadmeTest");

    private final List<String> lines = new ArrayList<>();
    private final List<String> calls = new ArrayList<>();
    private final List<String> answers = new ArrayList<>();
    private final Set<String> shown = new TreeSet<>();

    public static void main(String[] args) throws Exception {
        ReadmeTest test = new ReadmeTest();
        test.read(Files.readString(Path.of("README.md")));
        test.everyCallIsShown();
        test.compare();
        C.finish();
    }

    private void read(String text) {
        Matcher example = EXAMPLE.matcher(text);
        while (example.find()) {
            lines.add("{");
            for (String line : example.group(1).split("\n")) {
                readLine(line);
            }
            lines.add("}");
        }
    }

    private void readLine(String line) {
        if (line.equals(NEW_BOOK)) {
            lines.add(line);
            return;
        }
        Matcher call = CALL.matcher(line);
        boolean answered = call.matches();
        C.due("a call with its answer: " + line, answered, true);
        if (answered) {
            lines.add("got.add(String.valueOf(" + call.group(1) + "));");
            calls.add(call.group(1));
            shown.add(call.group(2));
            answers.add(call.group(3).equals("NONE") ? "-1" : call.group(3));
        }
    }

    private void everyCallIsShown() {
        for (Method m : RankBook.class.getDeclaredMethods()) {
            if (Modifier.isPublic(m.getModifiers())) {
                C.due(m.getName() + "() is shown", shown.contains(m.getName()), true);
            }
        }
    }

    private void compare() throws Exception {
        List<String> got = new ArrayList<>();
        Path made = Files.createTempDirectory("readme");
        try {
            run(made, got);
        } finally {
            for (File file : made.toFile().listFiles()) {
                file.delete();
            }
            Files.delete(made);
        }
        C.due("calls that were answered", got.size(), calls.size());
        for (int i = 0; i < got.size() && i < calls.size(); i++) {
            C.due("call " + (i + 1) + ", " + calls.get(i) + " -> " + answers.get(i) + " (is " + got.get(i) + ")",
                    got.get(i).equals(answers.get(i)), true);
        }
    }

    private void run(Path made, List<String> got) throws Exception {
        Path source = made.resolve("ReadmeCalls.java");
        Files.writeString(source, "public final class ReadmeCalls {\n"
                + "public static void run(java.util.List<String> got) {\n"
                + String.join("\n", lines) + "\n}\n}\n");
        int failed = ToolProvider.getSystemJavaCompiler().run(null, null, null,
                "-cp", System.getProperty("java.class.path"), "-d", made.toString(), source.toString());
        C.due("the examples compile", failed, 0);
        if (failed != 0) {
            return;
        }
        try (URLClassLoader loader = new URLClassLoader(new URL[] {made.toUri().toURL()})) {
            loader.loadClass("ReadmeCalls").getMethod("run", List.class).invoke(null, got);
        }
    }
}
