import java.io.IOException;
import java.lang.reflect.Method;
import java.lang.reflect.Modifier;
import java.nio.file.DirectoryStream;
import java.nio.file.Files;
import java.nio.file.Path;
import java.util.ArrayList;
import java.util.List;

/** README.md: its example answers what it says, and it names each call of the class and each test. */
public final class ReadmeTest {
    private static final String INDENT = "    ";
    private static final List<String> answered = new ArrayList<>();

    public static void main(String[] args) throws IOException {
        List<String> lines = Files.readAllLines(Path.of("README.md"));
        example(lines);
        calls(String.join("\n", lines));
        tests(String.join("\n", lines));
        Checks.finish("ReadmeTest");
    }

    private static void example(List<String> lines) {
        HiddenPeriods x = Checks.typed("(abc)7dbc(abc)3");
        answers("x.firstError();", x.firstError());
        answers("x.putAll();", x.putAll());
        answers("x.best(20, 60);", x.best(20, 60));
        answers("x.find(20, 60);", x.find(20, 60));
        answers("x.period(0, 3);", x.period(0, 3));
        answers("x.period(0, 4);", x.period(0, 4));
        answers("x.sign(21);", x.sign(21));
        answers("x.told(21, 0);", x.told(21, 0));
        answers("x.share();", x.share());
        answers("x.mend();", x.mend());
        answers("x.share();", x.share());
        answers("x.undo();", x.undo());
        answers("x.explains(25, 0);", x.explains(25, 0));
        Checks.same("the example's calls and answers", String.join("\n", toldIn(lines)), String.join("\n", answered));
        Checks.holds("the example's text", lines.contains(INDENT + "for (char code : \"(abc)7dbc(abc)3\".toCharArray()) {"));
    }

    private static void answers(String call, Object answer) {
        answered.add(call + " " + answer);
    }

    private static List<String> toldIn(List<String> lines) {
        List<String> told = new ArrayList<>();
        for (String line : lines) {
            int comment = line.indexOf(" // ");
            if (line.startsWith(INDENT) && comment >= 0) {
                String answer = line.substring(comment + 4, line.indexOf(": ", comment));
                told.add(line.substring(0, comment).trim() + " " + answer);
            }
        }
        return told;
    }

    private static void calls(String page) {
        for (Method method : HiddenPeriods.class.getDeclaredMethods()) {
            if (Modifier.isPublic(method.getModifiers())) {
                Checks.holds("README.md names the call " + method.getName(), page.contains("`" + method.getName() + "`"));
            }
        }
    }

    private static void tests(String page) throws IOException {
        try (DirectoryStream<Path> files = Files.newDirectoryStream(Path.of("src/test/java"), "*Test.java")) {
            for (Path file : files) {
                String name = file.getFileName().toString().replace(".java", "");
                Checks.holds("README.md's table names the test " + name, page.contains("\n| `" + name + "` | "));
            }
        }
    }
}
