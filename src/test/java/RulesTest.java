import java.io.IOException;
import java.nio.file.Files;
import java.nio.file.Path;
import java.util.ArrayList;
import java.util.LinkedHashMap;
import java.util.LinkedHashSet;
import java.util.List;
import java.util.Map;
import java.util.Set;
import java.util.regex.Matcher;
import java.util.regex.Pattern;

/** What of LANGUAGE.md's rules can be seen by a look at the program's text: words, library, sizes, depth of calls. */
public final class RulesTest {
    private static final Path PROGRAM = Path.of("src/main/java/HiddenPeriods.java");
    private static final int DEEPEST = 8;
    private static final int LONGEST = 60;
    private static final int MOST_PARAMETERS = 7;
    private static final int MOST_CLASSES = 12;
    private static final int MOST_FIELDS = 20;

    private static final Pattern METHOD =
        Pattern.compile("( {4}| {8})(?:[a-z]+ )*(?:[A-Za-z]+(?:\\[\\])* )?([A-Za-z]+)\\(([^()]*)\\).* \\{");
    private static final Pattern CLASS = Pattern.compile(" *(?:[a-z]+ )*class ([A-Za-z]+) \\{");
    private static final Pattern CALL = Pattern.compile("(?<!new )\\b([a-zA-Z]+)\\(");
    private static final Pattern MADE = Pattern.compile("new ([A-Z][A-Za-z]+)\\(");

    /** Methods of a name are taken together, so that no call is left out. */
    private static final Map<String, Set<String>> calls = new LinkedHashMap<>();

    public static void main(String[] args) throws IOException {
        String source = Files.readString(PROGRAM);
        String code = source.replaceAll("/\\*(?s:.*?)\\*/", "").replaceAll("//.*", "").replaceAll("\"[^\"]*\"", "\"\"");
        Checks.holds("signs 1 to 127 alone", source.chars().allMatch(sign -> sign > 0 && sign < 128));
        library(code);
        words(code);
        classes(code);
        methods(code);
        depth();
        exceptions(source);
        Checks.finish("RulesTest");
    }

    private static void library(String code) {
        Set<String> allowed = Set.of("Math.max", "Math.min", "Arrays.fill", "System.arraycopy");
        Matcher used = Pattern.compile("\\b([A-Z][A-Za-z]*\\.[a-zA-Z]+)").matcher(code);
        while (used.find()) {
            Checks.holds("of the library that LANGUAGE.md lists: " + used.group(1), allowed.contains(used.group(1)));
        }
        Matcher imports = Pattern.compile("import .*").matcher(code);
        while (imports.find()) {
            Checks.same("the import", imports.group(), "import java.util.Arrays;");
        }
    }

    private static void words(String code) {
        for (String word : new String[] {"finally", "synchronized", "assert", "package", "protected", "try", "catch", "float",
            "Double", "Integer", "Object", "Random", "Thread", "equals", "hashCode", "toString", "getMessage", "instanceof"}) {
            Checks.holds("no " + word, !Pattern.compile("\\b" + word + "\\b").matcher(code).find());
        }
        for (String sign : new String[] {"->", "::", "static {", "\t", "\" +", "+ \"", "while (true)", "for (;;"}) {
            Checks.holds("no " + sign, !code.contains(sign));
        }
    }

    private static void classes(String code) {
        int classes = 0;
        int fields = 0;
        for (String line : code.split("\n")) {
            Matcher begin = CLASS.matcher(line);
            if (begin.matches()) {
                classes++;
                fields = 0;
            }
            boolean field = line.matches(" +private (final )?[A-Za-z]+(\\[\\])? [a-zA-Z]+( = .*)?;");
            fields += field ? 1 : 0;
            Checks.holds("few fields: " + line, fields <= MOST_FIELDS);
        }
        Checks.holds("some classes, and few: " + classes, classes > 1 && classes <= MOST_CLASSES);
    }

    private static void methods(String code) {
        String name = "";
        String indent = "";
        int length = 0;
        for (String line : code.split("\n")) {
            Matcher begin = METHOD.matcher(line);
            if (begin.matches() && name.isEmpty()) {
                name = begin.group(2);
                indent = begin.group(1);
                length = 0;
                int parameters = begin.group(3).isEmpty() ? 0 : begin.group(3).split(",").length;
                Checks.holds("few parameters: " + name, parameters <= MOST_PARAMETERS);
                calls.computeIfAbsent(name, any -> new LinkedHashSet<>());
            } else if (!name.isEmpty()) {
                addCalls(name, line);
            }
            length++;
            if (line.equals(indent + "}")) {
                Checks.holds("short: " + name, length <= LONGEST);
                name = "";
            }
        }
        Checks.holds("many methods are seen: " + calls.keySet(), calls.size() > 80);
    }

    private static void addCalls(String name, String line) {
        Matcher call = CALL.matcher(line);
        while (call.find()) {
            calls.get(name).add(call.group(1));
        }
        Matcher made = MADE.matcher(line);
        while (made.find()) {
            calls.get(name).add(made.group(1));
        }
    }

    private static void depth() {
        for (String name : calls.keySet()) {
            List<String> path = deepestFrom(name, new ArrayList<>());
            Checks.holds("at most eight deep: " + path, path.size() <= DEEPEST);
        }
    }

    private static List<String> deepestFrom(String name, List<String> before) {
        List<String> path = new ArrayList<>(before);
        path.add(name);
        if (before.contains(name) || path.size() > DEEPEST) {
            Checks.holds("no recursion, and not too deep: " + path, false);
            return path;
        }
        List<String> deepest = path;
        for (String called : calls.get(name)) {
            if (calls.containsKey(called)) {
                List<String> deeper = deepestFrom(called, path);
                deepest = deeper.size() > deepest.size() ? deeper : deepest;
            }
        }
        return deepest;
    }

    private static void exceptions(String source) {
        Matcher thrown = Pattern.compile("throw (.*)").matcher(source);
        while (thrown.find()) {
            Checks.holds("one of the document's, with a written text: " + thrown.group(1), thrown.group(1).matches(
                "new (IllegalArgument|IllegalState|IndexOutOfBounds)Exception\\(\"[^\"]*\"\\);"));
        }
    }
}
