import java.io.IOException;
import java.nio.file.Files;
import java.nio.file.Path;
import java.util.List;
import java.util.Map;
import java.util.Set;
import java.util.TreeMap;
import java.util.TreeSet;
import java.util.regex.Matcher;
import java.util.regex.Pattern;

/** What can be seen from the text alone of the rules in LANGUAGE.md; the first argument names the source. */
public final class LanguageTest {
    private static final String[] NEVER = {
        "^\\s*package\\b", "^\\s*import\\b", "->", "::", "\\btry\\b", "\\bcatch\\b", "\\bfinally\\b",
        "\\bsynchronized\\b", "\\bassert\\b", "\\binstanceof\\b", "\\bnative\\b", "\\bvolatile\\b",
        "\\bSystem\\b", "\\bThread\\b", "\\bRandom\\b", "Exact\\b", "@", "\\bfloat\\b", "\\bdouble\\b",
        "\\bhashCode\\b", "\\bequals\\b", "\\btoString\\b", "\\bstatic\\s*\\{", "\\bprotected\\b",
        "[^\\x00-\\x7f]",
    };
    private static final Pattern METHOD = Pattern.compile(
            "^( {4}| {8})(?!.*\\bclass\\b)[A-Za-z][A-Za-z \\[\\]]*\\b[A-Za-z]+\\(.*\\{$");

    public static void main(String[] args) throws IOException {
        List<String> lines = Files.readAllLines(Path.of(args[0]));
        for (int i = 0; i < lines.size(); i++) {
            String code = lines.get(i).replaceAll("^\\s*(/\\*|\\*|//).*$", "");
            for (String never : NEVER) {
                Due.holds("line " + (i + 1) + " without " + never + ": " + code,
                        !Pattern.compile(never).matcher(code).find());
            }
        }
        throwsOnlyWhatIsTold(lines);
        Due.holds("methods were found", methodsAreShort(lines) > 60);
        Due.holds("at most twelve classes", classes(lines) <= 12);
        callsGoEightDeep(lines);
        Due.finish();
    }

    private static void throwsOnlyWhatIsTold(List<String> lines) {
        Pattern told = Pattern.compile(
                "throw new (ArrayIndexOutOfBoundsException|NullPointerException)\\(\"[a-z ]+\"\\);");
        for (String line : lines) {
            Due.holds("a throw as told: " + line, !line.contains("throw ") || told.matcher(line).find());
        }
    }

    private static int methodsAreShort(List<String> lines) {
        int methods = 0;
        for (int i = 0; i < lines.size(); i++) {
            Matcher head = METHOD.matcher(lines.get(i));
            if (!head.matches()) {
                continue;
            }
            methods++;
            int end = i;
            while (!lines.get(end).equals(head.group(1) + "}")) {
                end++;
            }
            Due.holds("at most sixty lines: " + lines.get(i), end - i < 60);
            int parameters = lines.get(i).split(",").length;
            Due.holds("at most seven parameters: " + lines.get(i), parameters <= 7);
        }
        return methods;
    }

    /** Methods of one name are taken as one: the depth can only seem larger than it is. */
    private static void callsGoEightDeep(List<String> lines) {
        Map<String, Set<String>> callsOf = new TreeMap<>();
        String method = null;
        for (String line : lines) {
            Matcher head = METHOD.matcher(line);
            if (head.matches()) {
                method = line.replaceAll("\\(.*", "").replaceAll(".* ", "");
                callsOf.computeIfAbsent(method, name -> new TreeSet<>());
            } else if (method != null && !line.matches("^\\s*(/\\*|\\*|//).*$")) {
                Matcher call = Pattern.compile("\\b([A-Za-z]+)\\(").matcher(line);
                while (call.find()) {
                    callsOf.get(method).add(call.group(1));
                }
            }
        }
        for (String name : callsOf.keySet()) {
            int depth = depthOf(name, callsOf, 0);
            Due.holds("calls from " + name + " go eight deep at most, not " + depth, depth <= 8);
        }
    }

    /** A ring of calls is as deep as this looks. */
    private static int depthOf(String name, Map<String, Set<String>> callsOf, int above) {
        int below = 0;
        if (above < 20 && callsOf.containsKey(name)) {
            for (String called : callsOf.get(name)) {
                if (callsOf.containsKey(called)) {
                    below = Math.max(below, depthOf(called, callsOf, above + 1));
                }
            }
        }
        return below + 1;
    }

    private static int classes(List<String> lines) {
        int classes = 0;
        for (String line : lines) {
            if (line.matches("^ *(public |private )?(static )?final class .*")) {
                classes++;
            }
        }
        return classes;
    }
}
