import java.lang.reflect.Method;
import java.lang.reflect.Modifier;
import java.nio.file.Files;
import java.nio.file.Path;
import java.util.regex.Matcher;
import java.util.regex.Pattern;

/**
 * README.md's example answers what is written there, and the page names each call and refusal; run from the project's
 * folder.
 */
public final class ReadmeTest {
    private static final Pattern BLOCK = Pattern.compile("(?s)```java\n(.*?)```");
    private static final Pattern CALL = Pattern.compile("\\bx\\.(\\w+)\\(([-0-9, ]*)\\);");
    private static final Pattern TOLD = Pattern.compile("// (-?\\d+):");
    private static final int LEAST_LINES = 10;
    private static final int[] REFUSALS = {
        SphereSheets.NONE, SphereSheets.BAD, SphereSheets.FULL, -1000011, -1000012, -1000013, -1000014, -1000015};
    private static int held = 0, wrong = 0;

    public static void main(String[] args) throws Exception {
        String page = Files.readString(Path.of("README.md"));
        Matcher block = BLOCK.matcher(page);
        for (; block.find();) {
            runExample(block.group(1));
        }
        check(held >= LEAST_LINES, "the example has " + LEAST_LINES + " answers at least, not " + held);
        for (Method method : SphereSheets.class.getDeclaredMethods()) {
            if (Modifier.isPublic(method.getModifiers())) {
                check(page.contains("`" + method.getName() + "("), "the page names " + method.getName());
            }
        }
        for (int refusal : REFUSALS) {
            check(page.contains("| " + refusal + " |"), "the page names " + refusal);
        }
        if (wrong != 0) {
            System.exit(1);
        }
    }

    private static void check(boolean holds, String what) {
        if (!holds) {
            wrong++;
            System.out.println("not so: " + what);
        }
    }

    private static void runExample(String example) throws Exception {
        SphereSheets x = new SphereSheets();
        for (String line : example.split("\n")) {
            String answer = lastAnswer(x, line);
            Matcher told = TOLD.matcher(line);
            if (told.find()) {
                held++;
                check(told.group(1).equals(answer), line + " (it answered " + answer + ")");
            } else {
                check(answer.isEmpty(), "an answer is told: " + line);
            }
        }
    }

    /** Runs the calls of a line; without one it is empty. */
    private static String lastAnswer(SphereSheets x, String line) throws Exception {
        String answer = "";
        Matcher call = CALL.matcher(line);
        for (; call.find();) {
            String[] texts = call.group(2).isBlank() ? new String[0] : call.group(2).split(",");
            Class<?>[] types = new Class<?>[texts.length];
            Object[] numbers = new Object[texts.length];
            for (int i = 0; i < texts.length; i++) {
                types[i] = int.class;
                numbers[i] = Integer.valueOf(texts[i].trim());
            }
            answer = String.valueOf(SphereSheets.class.getMethod(call.group(1), types).invoke(x, numbers));
        }
        return answer;
    }
}
