import java.nio.file.Files;
import java.nio.file.Path;
import java.util.regex.Matcher;
import java.util.regex.Pattern;

/** What LANGUAGE.md forbids and a look at the words of the source can find; run from the project's folder. */
public final class LanguageTest {
    private static final String[] FORBIDDEN = {
        "\\b(throw|throws|try|catch|finally|synchronized|assert|native|volatile|transient|strictfp)\\b", "->", "::",
        "\\b(double|float)\\b", "\\b(Object|Map|Set|HashMap|HashSet|Collections|Optional|Random|Thread|Class)\\b",
        "\\b(hashCode|toString|getClass)\\b", "\\w+Exact\\b", "\\bpackage\\b", "\\bprotected\\b", "\\bgoto\\b",
        "\\bSystem\\.(?!arraycopy\\b)", "\\bArrays\\.(?!(copyOf|copyOfRange|fill)\\b)", "\\bwhile\\s*\\(\\s*true",
        "for\\s*\\(\\s*;", "\\bstatic\\s*\\{"};
    private static int wrong = 0;

    public static void main(String[] args) throws Exception {
        String source = Files.readString(Path.of("src/main/java/SphereSheets.java"));
        for (char sign : source.toCharArray()) {
            if (sign > 126) {
                wrong++;
                System.out.println("a sign beyond 126: " + (int) sign);
            }
        }
        String code = source.replaceAll("(?s)/\\*.*?\\*/", "").replaceAll("//[^\n]*", "");
        for (String words : FORBIDDEN) {
            Matcher matcher = Pattern.compile(words).matcher(code);
            for (; matcher.find();) {
                wrong++;
                System.out.println("forbidden: " + matcher.group());
            }
        }
        Matcher imports = Pattern.compile("import ([^;]*);").matcher(code);
        for (; imports.find();) {
            if (!imports.group(1).matches("java\\.util\\.(Arrays|ArrayList|List|Iterator)")) {
                wrong++;
                System.out.println("forbidden: " + imports.group());
            }
        }
        if (wrong != 0) {
            System.exit(1);
        }
    }
}
