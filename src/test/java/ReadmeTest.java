import java.io.IOException;
import java.lang.reflect.Method;
import java.lang.reflect.Modifier;
import java.net.URL;
import java.net.URLClassLoader;
import java.nio.file.Files;
import java.nio.file.Path;
import java.util.ArrayList;
import java.util.List;
import java.util.regex.Matcher;
import java.util.regex.Pattern;
import java.util.stream.Stream;
import javax.tools.ToolProvider;

/** README.md says how to use the class and how to run its tests: what it says is so. Runs in the project's folder. */
public final class ReadmeTest {
    /** A line of the program there: a call, and behind // what it answers (and, behind a colon, what that means). */
    private static final Pattern ANSWERED = Pattern.compile(" *(g\\.\\w+\\([^;]*\\)); *// (-?\\w+)(:.*)?");

    public static void main(String[] args) throws Exception {
        String page = Files.readString(Path.of("README.md"));
        Trial.says("README.md says how to use the class");
        namesEveryCall(page);
        answersAsItSays(page);
        Trial.says("README.md says how to run its tests");
        namesEveryTest(page);
        Trial.end();
    }

    private static void namesEveryCall(String page) {
        for (Method m : GutterNine.class.getDeclaredMethods()) {
            if (Modifier.isPublic(m.getModifiers())) {
                // In the table the names of the parameters are told as the document tells them.
                String parameters = m.getParameterCount() == 0 ? "\\(\\)" : "\\(\\w+(, \\w+){" + (m.getParameterCount() - 1) + "}\\)";
                boolean there = Pattern.compile("(?m)^\\| .*`" + m.getName() + parameters + "`.* \\| .+ \\|$").matcher(page).find();
                Trial.due(m.getName() + " stands in the table", there, true);
            }
        }
    }

    private static void namesEveryTest(String page) throws IOException {
        Trial.due("it names .ci/run", page.contains("\n    .ci/run\n"), true);
        Trial.due(".ci/run is there", Files.isExecutable(Path.of(".ci/run")), true);
        try (Stream<Path> tests = Files.list(Path.of("src/test/java"))) {
            for (Path test : tests.filter(p -> p.toString().endsWith("Test.java")).toList()) {
                String name = test.getFileName().toString().replace(".java", "");
                Trial.due(name + " is named", page.contains("`" + name + "`"), true);
            }
        }
    }

    /** Compiles the program of the page, each answer written down, and compares these with what stands behind them. */
    private static void answersAsItSays(String page) throws Exception {
        int from = page.indexOf("```java\n") + "```java\n".length();
        List<String> calls = new ArrayList<>();
        List<String> wanted = new ArrayList<>();
        StringBuilder program = new StringBuilder();
        for (String line : page.substring(from, page.indexOf("\n```", from)).split("\n")) {
            Matcher told = ANSWERED.matcher(line);
            if (told.matches()) {
                calls.add(told.group(1));
                wanted.add(told.group(2));
                program.append("answers.add(String.valueOf(").append(told.group(1)).append("));\n");
            } else {
                Trial.due("a line tells no answer: " + line, line.matches(" *g\\.(?!feed).*"), false);
                program.append(line.replace("class Example {",
                    "class Example { public static java.util.List<String> answers = new java.util.ArrayList<>();")).append('\n');
            }
        }
        Trial.due("some calls are shown", calls.size() >= 20, true);
        List<?> answers = answersOf(program.toString());
        Trial.due("as many answers as calls", answers.size(), calls.size());
        for (int i = 0; i < answers.size(); i++) {
            Trial.due(calls.get(i), String.valueOf(answers.get(i)), wanted.get(i));
        }
    }

    private static List<?> answersOf(String program) throws Exception {
        Path into = Files.createTempDirectory("readme");
        Path source = into.resolve("Example.java");
        Files.writeString(source, program);
        int failed = ToolProvider.getSystemJavaCompiler().run(null, null, null, "-encoding", "UTF-8",
            "-cp", System.getProperty("java.class.path"), "-d", into.toString(), source.toString());
        Trial.due("the program compiles: faults", failed, 0);
        List<?> answers = List.of();
        if (failed == 0) {
            try (URLClassLoader loader = new URLClassLoader(new URL[] {into.toUri().toURL()})) {
                Class<?> example = loader.loadClass("Example");
                example.getMethod("main", String[].class).invoke(null, (Object) new String[0]);
                answers = (List<?>) example.getField("answers").get(null);
            }
        }
        try (Stream<Path> made = Files.list(into)) {
            for (Path file : made.toList()) {
                Files.delete(file);
            }
        }
        Files.delete(into);
        return answers;
    }
}
