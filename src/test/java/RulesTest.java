import java.io.IOException;
import java.lang.reflect.Field;
import java.lang.reflect.Method;
import java.lang.reflect.Modifier;
import java.nio.file.Files;
import java.nio.file.Path;
import java.util.ArrayList;
import java.util.Arrays;
import java.util.List;
import java.util.Set;
import java.util.TreeSet;
import java.util.regex.Matcher;
import java.util.regex.Pattern;

/** The public face, and what can be seen of the rules of LANGUAGE.md in the source. Runs in the project's folder. */
public final class RulesTest {
    private static final List<String> FACE = List.of("feed long long long int", "roof int", "yard int",
        "tile int int int int", "thing int int int", "arm int int", "toss int int int int int int", "hose int int",
        "broom int", "gale int int", "days int int", "fetch int int", "undo boolean", "rolls int int int",
        "odds int int int int int int", "gain int int int int int", "next int int", "plan int int",
        "alone int int int", "washed int int int", "blown int int", "await int int", "see int int boolean",
        "lies int int int int int int", "pitch int int", "pays int int int", "rests int int int",
        "otherwise int int int int int", "summer int int int int", "mark int boolean boolean", "count int int");
    private static final List<String> FORBIDDEN = List.of("->", "::", "catch", "finally", "synchronized", "assert ",
        "Exact(", "instanceof", "System.out", "Random", "nanoTime", "protected ", "@");
    /** What is used of that which stands in rule 4. */
    private static final Set<String> LIBRARY = Set.of("Arrays.fill", "System.arraycopy", "Integer.bitCount",
        "Math.max", "Math.min", "Math.abs");
    private static final Pattern OF_LIBRARY =
        Pattern.compile("\\b(Arrays|System|Integer|Long|Math|String|Character|Boolean|Objects|List|Collections)\\.\\w+");
    private static final String MADE_ONCE = " {4}( {4})?(private )?(final )?[\\w\\[\\]]+ \\w+ = new .*;";

    public static void main(String[] args) throws IOException {
        face();
        List<String> lines = Files.readAllLines(Path.of("src/main/java/GutterNine.java"));
        source(lines);
        library(lines);
        made(lines);
        Trial.end();
    }

    private static boolean isComment(String line) {
        return line.trim().startsWith("*") || line.trim().startsWith("/");
    }

    private static void library(List<String> lines) {
        for (String line : lines) {
            Matcher used = OF_LIBRARY.matcher(isComment(line) || line.startsWith("import ") ? "" : line);
            while (used.find()) {
                Trial.due("rule 4 has " + used.group(), LIBRARY.contains(used.group()), true);
            }
        }
    }

    /** Whatever is made by new is made with the object, but for what is thrown: calls make nothing. */
    private static void made(List<String> lines) {
        for (int i = 0; i < lines.size(); i++) {
            String line = lines.get(i);
            if (!isComment(line) && line.contains("new ")) {
                boolean once = line.matches(MADE_ONCE) || line.equals("            this.lawReader = new LawReader(tape);");
                boolean thrown = line.matches(" *throw new NoSuchElementException\\(\"[a-z ]+\"\\);");
                Trial.due("line " + (i + 1) + " makes something in a call", once || thrown, true);
            }
        }
    }

    private static void face() {
        TreeSet<String> open = new TreeSet<>();
        TreeSet<String> names = new TreeSet<>();
        for (Method m : GutterNine.class.getDeclaredMethods()) {
            StringBuilder told = new StringBuilder(m.getName());
            for (Class<?> type : m.getParameterTypes()) {
                told.append(' ').append(type.getName());
            }
            if (!Modifier.isPrivate(m.getModifiers())) {
                open.add(told.append(' ').append(m.getReturnType().getName()).toString());
                names.add(m.getName());
            }
        }
        same("the face", open, new TreeSet<>(FACE));
        for (Class<?> inner : GutterNine.class.getDeclaredClasses()) {
            Trial.due(inner + " is static and not public", Modifier.isStatic(inner.getModifiers())
                && !Modifier.isPublic(inner.getModifiers()), true);
            Trial.due(inner + " has some twenty fields", fields(inner) <= 20, true);
            for (Method m : inner.getDeclaredMethods()) {
                Trial.due(m + " bears a name of the face", names.contains(m.getName()), false);
                Trial.due(m + " has seven parameters at most", m.getParameterCount() <= 7, true);
            }
        }
        Trial.due("some twelve classes", GutterNine.class.getDeclaredClasses().length <= 12, true);
        Trial.due("one constructor", GutterNine.class.getDeclaredConstructors().length, 1);
        Trial.due("the class is public and final", GutterNine.class.getModifiers(), Modifier.PUBLIC | Modifier.FINAL);
        for (Field f : GutterNine.class.getDeclaredFields()) {
            Trial.due(f + " is private", Modifier.isPrivate(f.getModifiers()), !f.getName().equals("NONE"));
            Trial.due(f + " is final if static", !Modifier.isStatic(f.getModifiers())
                || Modifier.isFinal(f.getModifiers()), true);
        }
    }

    private static int fields(Class<?> type) {
        return (int) Arrays.stream(type.getDeclaredFields()).filter(f -> !Modifier.isStatic(f.getModifiers())).count();
    }

    private static void same(String what, TreeSet<String> got, TreeSet<String> want) {
        Trial.due(what, got.equals(want), true);
        if (!got.equals(want)) {
            System.out.println("got " + got + "\nwant " + want);
        }
    }

    private static void source(List<String> lines) {
        List<String> imports = new ArrayList<>();
        int start = -1;
        for (int i = 0; i < lines.size(); i++) {
            String line = lines.get(i);
            String code = line.replaceAll("//.*", "").trim();
            if (code.startsWith("import ")) {
                imports.add(code);
            }
            if (code.startsWith("*") || code.startsWith("/*")) {
                continue;
            }
            for (String word : FORBIDDEN) {
                Trial.due("line " + (i + 1) + " has " + word, code.contains(word), false);
            }
            boolean opens = line.matches(" {4}( {4})?[^ =;]+ [^=;]*\\(.*\\)[^=;]* \\{");
            start = opens ? i : start;
            if (start >= 0 && line.matches(" {4}( {4})?\\}")) {
                Trial.due("the method at line " + (start + 1) + " is short", i - start <= 60, true);
                start = -1;
            }
        }
        Trial.due("imports " + imports, imports.equals(List.of("import java.util.Arrays;",
            "import java.util.NoSuchElementException;")), true);
    }
}
