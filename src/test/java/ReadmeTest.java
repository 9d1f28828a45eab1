import java.io.IOException;
import java.lang.reflect.Method;
import java.lang.reflect.Modifier;
import java.nio.file.DirectoryStream;
import java.nio.file.Files;
import java.nio.file.Path;
import java.util.Arrays;
import java.util.List;
import java.util.Set;
import java.util.TreeSet;
import java.util.regex.Matcher;
import java.util.regex.Pattern;

/** What README.md says: the answers of its examples, all calls of the face, and all tests. */
public final class ReadmeTest {
    private static final Path README = Path.of("README.md");
    private static final Path TESTS = Path.of("src/test/java");
    private static final String NEW_OBJECT = "PrimeCertificates x = new PrimeCertificates();";

    private static final Pattern CALL = Pattern.compile("x\\.(\\w+)\\(([-\\d, ]*)\\);");
    private static final Pattern ANSWER = Pattern.compile("// (-?\\d+|true|false)\\b");
    private static final Pattern TEST_ROW = Pattern.compile("^\\| `(\\w+Test)` \\|");

    private static final Checks checks = new Checks("ReadmeTest");

    public static void main(String[] args) throws IOException, ReflectiveOperationException {
        List<String> rows = Files.readAllLines(README);
        checks.due("calls that are shown", callsShown(rows), callsOfFace());
        checks.due("tests that are named", testsNamed(rows), testsThere());
        checks.finish();
    }

    private static Set<String> callsShown(List<String> rows) throws ReflectiveOperationException {
        Set<String> shown = new TreeSet<>();
        PrimeCertificates x = new PrimeCertificates();
        boolean inExample = false;
        for (String row : rows) {
            if (row.startsWith("```")) {
                inExample = row.equals("```java");
            } else if (inExample && row.equals(NEW_OBJECT)) {
                x = new PrimeCertificates();
            } else if (inExample) {
                askRow(x, row, shown);
            }
        }
        return shown;
    }

    /** Makes the calls of a row; behind the last one stands its answer. */
    private static void askRow(PrimeCertificates x, String row, Set<String> shown)
            throws ReflectiveOperationException {
        String got = "no answer";
        Matcher calls = CALL.matcher(row);
        while (calls.find()) {
            shown.add(calls.group(1));
            got = String.valueOf(ask(x, calls.group(1), calls.group(2)));
        }
        Matcher answer = ANSWER.matcher(row);
        checks.due(row, got, answer.find() ? answer.group(1) : "told behind the call");
    }

    private static Object ask(PrimeCertificates x, String name, String listed) throws ReflectiveOperationException {
        String[] words = listed.isEmpty() ? new String[0] : listed.split(", ");
        Class<?>[] types = new Class<?>[words.length];
        Arrays.fill(types, int.class);
        Object[] values = new Object[words.length];
        for (int i = 0; i < words.length; i++) {
            values[i] = Integer.valueOf(words[i]);
        }
        return PrimeCertificates.class.getMethod(name, types).invoke(x, values);
    }

    private static Set<String> callsOfFace() {
        Set<String> names = new TreeSet<>();
        for (Method method : PrimeCertificates.class.getDeclaredMethods()) {
            if (Modifier.isPublic(method.getModifiers())) {
                names.add(method.getName());
            }
        }
        return names;
    }

    private static Set<String> testsNamed(List<String> rows) {
        Set<String> names = new TreeSet<>();
        for (String row : rows) {
            Matcher named = TEST_ROW.matcher(row);
            if (named.find()) {
                names.add(named.group(1));
            }
        }
        return names;
    }

    private static Set<String> testsThere() throws IOException {
        Set<String> names = new TreeSet<>();
        try (DirectoryStream<Path> files = Files.newDirectoryStream(TESTS, "*Test.java")) {
            for (Path file : files) {
                names.add(file.getFileName().toString().replace(".java", ""));
            }
        }
        return names;
    }
}
