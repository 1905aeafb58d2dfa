import java.io.IOException;
import java.nio.file.Files;
import java.nio.file.Path;
import java.util.LinkedHashMap;
import java.util.Map;
import java.util.Set;
import java.util.TreeSet;
import java.util.regex.Matcher;
import java.util.regex.Pattern;

/** The rules of LANGUAGE.md that the source shows and the compiled class does not. */
public final class LanguageTest {
    private static final Due DUE = new Due("LanguageTest");
    private static final Path SOURCE = Path.of("src/main/java/GalleyDesk.java");
    private static final int LONGEST_METHOD = 60;
    private static final int DEEPEST_CALL = 6;
    private static final Pattern METHOD = Pattern.compile(
        "\n    (?:public|private)(?: static)? (?:\\w+ )?(\\w+)\\([^)]*\\) \\{\n(.*?)\n    \\}", Pattern.DOTALL);
    private static final Pattern CALL = Pattern.compile("(?<![.\\w])(\\w+)\\(");

    private static String sourceWithoutComments() throws IOException {
        String all = Files.readString(SOURCE);
        return all.replaceAll("(?s)/\\*.*?\\*/", "").replaceAll("//[^\n]*", "");
    }

    private static Map<String, String> methods(String source) {
        Map<String, String> bodies = new LinkedHashMap<>();
        Matcher found = METHOD.matcher(source);
        while (found.find()) {
            bodies.put(found.group(1), found.group(2));
        }
        return bodies;
    }

    private static Set<String> calls(String code, Set<String> names) {
        Set<String> all = new TreeSet<>();
        Matcher found = CALL.matcher(code);
        while (found.find()) {
            if (names.contains(found.group(1))) {
                all.add(found.group(1));
            }
        }
        return all;
    }

    private static void forbiddenWords(String source) {
        String[] words = {"package", "import", "float", "double", "String", "Math", "Integer", "System", "Arrays",
            "null", "throw", "throws", "try", "catch", "synchronized", "assert", "instanceof", "interface", "enum",
            "record", "protected", "this", "super", "->", "::", "\""};
        for (String word : words) {
            boolean isWord = Character.isLetter(word.charAt(0));
            String bound = isWord ? "\\b" : "";
            Pattern whole = Pattern.compile(bound + Pattern.quote(word) + bound);
            DUE.no("rules 1 to 6: " + word, whole.matcher(source).find());
        }
    }

    private static void arraysAreFields(String source, Map<String, String> methods) {
        Matcher made = Pattern.compile("new ").matcher(source);
        int all = 0;
        while (made.find()) {
            all++;
        }
        Pattern field = Pattern.compile("\n    private final (\\w+)\\[\\] \\w+ = new \\1\\[[A-Z_]+\\];");
        Matcher fields = field.matcher(source);
        int inFields = 0;
        while (fields.find()) {
            inFields++;
        }
        DUE.is("rule 4: arrays made in fields with a constant length", inFields, all);
        methods.forEach((name, body) -> DUE.no("rule 4: made in " + name, body.contains("new ")));
    }

    private static void loopsHaveACounter(Map<String, String> methods) {
        methods.forEach((name, body) -> {
            DUE.no("rule 8: while in " + name, Pattern.compile("\\b(while|do)\\b").matcher(body).find());
            Matcher loop = Pattern.compile("\\bfor \\((.*)\\) \\{").matcher(body);
            while (loop.find()) {
                String counter = "int (\\w+) = [^;]+; \\1 (<|<=|>|>=) [^;]+; \\1(\\+\\+|--)";
                DUE.yes("rule 8: " + loop.group(1) + " in " + name, loop.group(1).matches(counter));
            }
        });
    }

    private static String arguments(String code, int from) {
        int open = 1;
        for (int i = from; i < code.length(); i++) {
            open += code.charAt(i) == '(' ? 1 : code.charAt(i) == ')' ? -1 : 0;
            if (open == 0) {
                return code.substring(from, i);
            }
        }
        return code.substring(from);
    }

    private static void callsStandAlone(Map<String, String> methods) {
        methods.forEach((name, body) -> {
            Matcher call = CALL.matcher(body);
            while (call.find()) {
                if (methods.containsKey(call.group(1))) {
                    Set<String> inside = calls(arguments(body, call.end()), methods.keySet());
                    String what = "rule 10: calls in the arguments of " + call.group(1) + " in " + name;
                    DUE.is(what, inside.toString(), "[]");
                }
            }
        });
    }

    private static void methodsAreShort(Map<String, String> methods) {
        methods.forEach((name, body) ->
            DUE.yes("rule 10: lines of " + name, body.lines().count() + 2 <= LONGEST_METHOD));
    }

    /** Goes up from the methods that call nothing; one that calls itself, even through others, is never reached. */
    private static void callsAreNotDeep(Map<String, String> methods) {
        Map<String, Integer> depths = new LinkedHashMap<>();
        for (int round = 1; round <= DEEPEST_CALL; round++) {
            for (Map.Entry<String, String> method : methods.entrySet()) {
                Set<String> called = calls(method.getValue(), methods.keySet());
                int depth = 1;
                for (String name : called) {
                    depth = Math.max(depth, depths.getOrDefault(name, DEEPEST_CALL) + 1);
                }
                if (depth <= round) {
                    depths.putIfAbsent(method.getKey(), depth);
                }
            }
        }
        for (String name : methods.keySet()) {
            DUE.yes("rules 8 and 10: six calls deep at most, and no recursion: " + name, depths.containsKey(name));
        }
    }

    public static void main(String[] args) throws IOException {
        String source = sourceWithoutComments();
        Map<String, String> methods = methods(source);
        DUE.is("methods found", methods.size(), GalleyDesk.class.getDeclaredMethods().length + 1);
        forbiddenWords(source);
        arraysAreFields(source, methods);
        loopsHaveACounter(methods);
        callsStandAlone(methods);
        methodsAreShort(methods);
        callsAreNotDeep(methods);
        DUE.end();
    }
}
