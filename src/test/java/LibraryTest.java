import java.io.IOException;
import java.nio.file.Files;
import java.nio.file.Path;
import java.util.Set;
import java.util.TreeSet;
import java.util.regex.Matcher;
import java.util.regex.Pattern;

/** Rule 4 of LANGUAGE.md: no function or field of the library but those that the rule names. */
public final class LibraryTest {
    private static final String SOURCE = "src/main/java/PrimeCertificates.java";
    private static final Set<String> NAMED = Set.of(
            "Math.max", "Math.min", "Math.abs", "Math.floorDiv", "Math.floorMod",
            "Integer.compare", "Integer.max", "Integer.min", "Integer.bitCount",
            "Long.compare", "Long.max", "Long.min", "Long.bitCount",
            "System.arraycopy", "Arrays.fill", "Arrays.copyOf", "Arrays.copyOfRange");
    private static final Set<String> IMPORTS = Set.of("java.util.Arrays");

    private static final Pattern COMMENT = Pattern.compile("/\\*.*?\\*/|//[^\\n]*", Pattern.DOTALL);
    private static final Pattern IMPORT = Pattern.compile("^import\\s+(?:static\\s+)?([\\w.*]+)\\s*;", Pattern.MULTILINE);
    private static final Pattern MEMBER = Pattern.compile("\\b([A-Z]\\w*)\\s*\\.\\s*(\\w+)");

    private static final Checks checks = new Checks("LibraryTest");

    public static void main(String[] args) throws IOException {
        String code = COMMENT.matcher(Files.readString(Path.of(SOURCE))).replaceAll(" ");
        Matcher imports = IMPORT.matcher(code);
        while (imports.find()) {
            checks.due("import of " + imports.group(1) + " is fine", IMPORTS.contains(imports.group(1)), true);
        }
        Set<String> own = ownClasses();
        Matcher members = MEMBER.matcher(IMPORT.matcher(code).replaceAll(" "));
        while (members.find()) {
            if (!own.contains(members.group(1))) {
                String used = members.group(1) + "." + members.group(2);
                checks.due(used + " is named", NAMED.contains(used), true);
            }
        }
        checks.due("a full name of the library", IMPORT.matcher(code).replaceAll(" ").contains("java."), false);
        checks.finish();
    }

    private static Set<String> ownClasses() {
        Set<String> own = new TreeSet<>();
        own.add(PrimeCertificates.class.getSimpleName());
        for (Class<?> inside : PrimeCertificates.class.getDeclaredClasses()) {
            own.add(inside.getSimpleName());
        }
        return own;
    }
}
