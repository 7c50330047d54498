import java.io.IOException;
import java.nio.file.Files;
import java.nio.file.Path;
import java.util.Map;
import java.util.Set;
import java.util.TreeMap;
import java.util.TreeSet;
import java.util.regex.Matcher;
import java.util.regex.Pattern;

/** What can be read off the source of the rules of LANGUAGE.md; FaceTest sees to the rest of rules 1, 2 and 5. */
public final class LanguageTest {
    private static final Path SOURCE = Path.of("src/main/java/RoaringCodec.java");
    private static final int MOST_LINES = 60;
    private static final int DEEPEST = 6;

    private static final Set<String> FORBIDDEN = Set.of(
        "package", "import", "interface", "enum", "record", "extends", "implements", "protected", "float", "double",
        "null", "throw", "throws", "try", "catch", "finally", "synchronized", "volatile", "assert", "instanceof",
        "native", "var", "super", "String", "Object", "Math", "Integer", "Long", "System", "Arrays", "Thread");
    private static final Set<String> BEFORE_A_BRACKET = Set.of("if", "for", "while", "switch", "return");

    private static final Pattern COMMENT = Pattern.compile("//[^\n]*|/\\*.*?\\*/", Pattern.DOTALL);
    private static final Pattern WORD = Pattern.compile("\\w+");
    private static final Pattern CALL = Pattern.compile("(\\w+) ?\\(");
    private static final Pattern ARRAY_FIELD = Pattern.compile(
        "    private final \\w+\\[\\] \\w+ = new \\w+\\[[A-Z0-9_ *]+\\];");
    private static final Pattern METHOD = Pattern.compile(
        "\n    (?:public|private)[^=;{]*?(\\w+)\\([^)]*\\) \\{\n(.*?)\n    \\}", Pattern.DOTALL);

    public static void main(String[] args) throws IOException {
        String code = COMMENT.matcher(Files.readString(SOURCE)).replaceAll("");
        words(code);
        arrays(code);
        Map<String, String> bodies = bodies(code);
        for (Map.Entry<String, String> method : bodies.entrySet()) {
            long lines = method.getValue().lines().count();
            Check.due("rule 10: " + method.getKey() + " is short", lines <= MOST_LINES, true);
            noCallInACall(method.getKey(), method.getValue());
        }
        depth(bodies);
        Check.end();
    }

    private static void words(String code) {
        Matcher words = WORD.matcher(code);
        while (words.find()) {
            String word = words.group();
            Check.due("rules 1 to 3 and 6: " + word + " is in the code", FORBIDDEN.contains(word), false);
        }
        for (String sign : new String[] {"\"", "->", "::", "@", "[][]"}) {
            Check.due("rules 2, 3 and 6: " + sign + " is in the code", code.contains(sign), false);
        }
        int classes = code.split("\\bclass\\b", -1).length - 1;
        Check.due("rule 1: classes", classes, 1);
    }

    private static void arrays(String code) {
        code.lines().filter(line -> line.matches(".*\\bnew\\b.*")).forEach(line -> {
            boolean inAField = ARRAY_FIELD.matcher(line).matches();
            Check.due("rule 4: an array made in a field's initialiser: " + line, inAField, true);
        });
    }

    private static Map<String, String> bodies(String code) {
        Map<String, String> bodies = new TreeMap<>();
        Matcher methods = METHOD.matcher(code);
        while (methods.find()) {
            bodies.put(methods.group(1), methods.group(2));
        }
        int declared = RoaringCodec.class.getDeclaredMethods().length;
        Check.due("the methods and the constructor that were read", bodies.size(), declared + 1);
        return bodies;
    }

    private static Set<String> callsIn(String text) {
        Set<String> calls = new TreeSet<>();
        Matcher found = CALL.matcher(text);
        while (found.find()) {
            if (!BEFORE_A_BRACKET.contains(found.group(1))) {
                calls.add(found.group(1));
            }
        }
        return calls;
    }

    private static void noCallInACall(String method, String body) {
        Matcher found = CALL.matcher(body);
        while (found.find()) {
            if (!BEFORE_A_BRACKET.contains(found.group(1))) {
                String inside = body.substring(found.end(), closing(body, found.end()));
                Check.due("rule 10: calls in the arguments of a call of " + method, callsIn(inside), Set.of());
            }
        }
    }

    private static int closing(String body, int start) {
        int open = 1;
        int at = start;
        while (open > 0) {
            char sign = body.charAt(at);
            open += sign == '(' ? 1 : sign == ')' ? -1 : 0;
            at++;
        }
        return at - 1;
    }

    /** Follows all calls at once, step by step: with recursion the steps would not end. */
    private static void depth(Map<String, String> bodies) {
        Set<String> reached = bodies.keySet();
        for (int depth = 1; depth <= DEEPEST && !reached.isEmpty(); depth++) {
            Set<String> next = new TreeSet<>();
            for (String method : reached) {
                for (String called : callsIn(bodies.get(method))) {
                    boolean ofTheClass = bodies.containsKey(called);
                    Check.due("rule 3: " + called + " is a method of the class", ofTheClass, true);
                    if (ofTheClass) {
                        next.add(called);
                    }
                }
            }
            reached = next;
        }
        Check.due("rules 8 and 10: methods that are called more than six deep", reached, Set.of());
    }
}
