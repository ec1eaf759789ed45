import java.io.IOException;
import java.nio.file.Files;
import java.nio.file.Path;
import java.util.HashMap;
import java.util.HashSet;
import java.util.List;
import java.util.Map;
import java.util.Set;
import java.util.TreeMap;
import java.util.TreeSet;
import java.util.regex.Matcher;
import java.util.regex.Pattern;

/** Rules 8 and 11 of LANGUAGE.md, by the source: no call comes back to itself, and none goes more than eight deep. */
public final class DepthTest {
    private static final int DEEPEST = 8;
    private static final Pattern CLASS = Pattern.compile(" *(?:public |private )?(?:static )?final class (\\w+) \\{");
    private static final Pattern METHOD =
        Pattern.compile(" {4}(?: {4})?((?:[\\w\\[\\]]+ )+)(\\w+)\\([^()]*\\)(?: throws \\w+)? \\{");
    private static final Pattern CALL = Pattern.compile("(new )?(?:(\\w+)\\.)?\\b(\\w+)\\(");
    private static final Set<String> NO_CALLS = Set.of("if", "for", "while", "switch", "return");

    /** What each method calls: names as CLASS.method. */
    private static final Map<String, Set<String>> CALLS = new TreeMap<>();
    private static final Map<String, String> CLASS_OF_NAME = new HashMap<>();
    private static final Set<String> OPEN = new HashSet<>();
    private static final Map<String, Integer> DEPTHS = new HashMap<>();

    public static void main(String[] args) throws IOException {
        List<String> lines = Files.readAllLines(Path.of("src/main/java/GutterNine.java"));
        Trial.says("Rule 11: calls that are no recursion go at most eight deep");
        findMethods(lines);
        findNames(String.join("\n", lines));
        findCalls(lines);
        Trial.due("the methods are found", CALLS.size() > 150, true);
        int deepest = 0;
        for (String method : OPEN) {
            int depth = depth(method, new HashSet<>());
            deepest = Math.max(deepest, depth);
            Trial.due(method + " goes too deep (" + depth + ")", depth <= DEEPEST, true);
        }
        Trial.due("all calls of the face, and the constructor, are found", OPEN.size(), 32);
        Trial.due("the deepest, as NOTES.md says", deepest, DEEPEST);
        for (String method : Set.of("yard", "next", "plan")) {
            Trial.due(method + ", as NOTES.md says", depth("GutterNine." + method, new HashSet<>()), DEEPEST);
        }
        Trial.end();
    }

    private static void findMethods(List<String> lines) {
        String type = "";
        for (String line : lines) {
            type = typeAt(line, type);
            Matcher method = METHOD.matcher(line);
            if (method.matches()) {
                String name = type + "." + method.group(2);
                Trial.due(name + " is told once", CALLS.containsKey(name), false);
                CALLS.put(name, new TreeSet<>());
                if (method.group(1).startsWith("public ")) {
                    OPEN.add(name);
                }
            }
        }
    }

    private static String typeAt(String line, String type) {
        if (line.equals("    }")) {
            return "GutterNine";
        }
        Matcher begins = CLASS.matcher(line);
        return begins.matches() ? begins.group(1) : type;
    }

    /** Which class the fields, parameters and variables of a name are of. */
    private static void findNames(String source) {
        Set<String> types = new TreeSet<>();
        CALLS.keySet().forEach(name -> types.add(name.substring(0, name.indexOf('.'))));
        Matcher told = Pattern.compile("\\b(" + String.join("|", types) + ") (\\w+)\\b").matcher(source);
        while (told.find()) {
            CLASS_OF_NAME.put(told.group(2), told.group(1));
        }
    }

    private static void findCalls(List<String> lines) {
        String type = "";
        String method = "";
        String end = "";
        for (String line : lines) {
            type = typeAt(line, type);
            Matcher begins = METHOD.matcher(line);
            if (begins.matches()) {
                method = type + "." + begins.group(2);
                end = " ".repeat(line.indexOf(line.trim())) + "}";
                continue;
            }
            if (line.equals(end)) {
                method = "";
            }
            Matcher call = CALL.matcher(method.isEmpty() || line.trim().startsWith("//") ? "" : line);
            while (call.find()) {
                String called = called(type, call);
                if (!called.isEmpty()) {
                    CALLS.get(method).add(called);
                }
            }
        }
    }

    private static String called(String type, Matcher call) {
        String name = call.group(3);
        if (call.group(1) != null || NO_CALLS.contains(name)) {
            return "";
        }
        if (call.group(2) != null) {
            // What is called on anything else is the library's: it calls nothing of ours.
            String of = CLASS_OF_NAME.get(call.group(2));
            return of == null ? "" : known(of + "." + name);
        }
        return known((CALLS.containsKey(type + "." + name) ? type : "GutterNine") + "." + name);
    }

    private static String known(String name) {
        Trial.due(name + " is known", CALLS.containsKey(name), true);
        return CALLS.containsKey(name) ? name : "";
    }

    private static int depth(String method, Set<String> above) {
        if (above.contains(method)) {
            Trial.due(method + " comes back to itself", true, false);
            return 0;
        }
        Integer found = DEPTHS.get(method);
        if (found != null) {
            return found;
        }
        above.add(method);
        int deepest = 0;
        for (String called : CALLS.get(method)) {
            deepest = Math.max(deepest, depth(called, above));
        }
        above.remove(method);
        DEPTHS.put(method, deepest + 1);
        return deepest + 1;
    }
}
