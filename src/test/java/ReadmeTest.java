import java.io.IOException;
import java.lang.reflect.Method;
import java.lang.reflect.Modifier;
import java.nio.file.DirectoryStream;
import java.nio.file.Files;
import java.nio.file.Path;
import java.util.TreeSet;
import java.util.regex.Matcher;
import java.util.regex.Pattern;

/** What README.md says: its example's answers, and that it names every call and every test. .ci/run stands beside it. */
public final class ReadmeTest {

    private static final Path PAGE = Path.of("README.md");
    private static final Path TESTS = Path.of("src/test/java");

    public static void main(String[] args) throws IOException {
        String page = Files.readString(PAGE);
        exampleAnswersAsItSays(page);
        everyCallIsNamed(page);
        testsAreNamed(page);
        Check.due("names .ci/run", 1, page.contains("\n.ci/run\n") && Files.isExecutable(Path.of(".ci/run")) ? 1 : 0);
        Check.end("ReadmeTest");
    }

    private static void exampleAnswersAsItSays(String page) {
        say(page, "Tetherline x = new Tetherline(5, 5, 20);");
        Tetherline x = new Tetherline(5, 5, 20);
        Check.due("x.pillar(2, 2)", said(page, "x.pillar(2, 2);"), x.pillar(2, 2));
        Check.due("x.go(3, 3)", said(page, "x.go(3, 3);"), x.go(3, 3));
        Check.due("x.letters()", said(page, "x.letters();"), x.letters());
        Check.due("x.letterAt(0)", said(page, "x.letterAt(0);"), x.letterAt(0));
        Check.due("x.back(2)", said(page, "x.back(2);"), x.back(2));
        Check.due("x.length()", said(page, "x.length();"), x.length());
        Check.due("x.slack()", said(page, "x.slack();"), x.slack());
        Check.due("x.words(1, 3)", said(page, "x.words(1, 3);"), x.words(1, 3));
        Check.due("lines of the example", 8, Pattern.compile("(?m)^x\\..*$").matcher(page).results().count());
    }

    private static void say(String page, String line) {
        Check.due("says " + line, 1, page.contains("\n" + line) ? 1 : 0);
    }

    /** The number with which the comment behind a line of the example begins. */
    private static long said(String page, String line) {
        Matcher found = Pattern.compile("(?m)^" + Pattern.quote(line) + " *// (-?\\d+)").matcher(page);
        boolean says = found.find();
        Check.due("says the answer of " + line, 1, says ? 1 : 0);
        return says ? Long.parseLong(found.group(1)) : Long.MIN_VALUE;
    }

    private static void everyCallIsNamed(String page) {
        Check.due("names the constructor", 1, page.contains("| `new Tetherline(columns, rows, limit)` |") ? 1 : 0);
        Check.due("names NONE", 1, page.contains("`NONE` is " + Tetherline.NONE + ".") ? 1 : 0);
        for (Method method : Tetherline.class.getDeclaredMethods()) {
            if (Modifier.isPublic(method.getModifiers())) {
                Check.due("names " + method.getName(), 1, page.contains("`" + method.getName() + "(") ? 1 : 0);
            }
        }
    }

    private static void testsAreNamed(String page) throws IOException {
        TreeSet<String> there = new TreeSet<>();
        try (DirectoryStream<Path> files = Files.newDirectoryStream(TESTS, "*Test.java")) {
            for (Path file : files) {
                there.add(file.getFileName().toString().replace(".java", ""));
            }
        }
        TreeSet<String> named = new TreeSet<>();
        Matcher rows = Pattern.compile("(?m)^\\| `(\\w+Test)` \\|").matcher(page);
        while (rows.find()) {
            named.add(rows.group(1));
        }
        Check.dueText("the tests that it names", there.toString(), named.toString());
    }
}
