import java.io.IOException;
import java.lang.reflect.Method;
import java.lang.reflect.Modifier;
import java.nio.file.Files;
import java.nio.file.Path;
import java.util.Set;
import java.util.TreeSet;
import java.util.regex.Matcher;
import java.util.regex.Pattern;

/** README.md shows calls with their answers: each is made, and every call of the face must be among them. */
public final class ReadmeTest {
    private static final Pattern NEW = Pattern.compile("AvalancheVote x = new AvalancheVote\\(\\);");
    private static final Pattern TYPED =
            Pattern.compile("for \\(char c : \"([^\"]*)\"\\.toCharArray\\(\\)\\) x\\.type\\(c\\);");
    private static final Pattern CALL = Pattern.compile("x\\.(\\w+)\\(([-0-9, ]*)\\); +// (-?\\d+)(:.*)?");

    private final Set<String> shown = new TreeSet<>();
    private Run run = new Run();

    public static void main(String[] args) throws IOException {
        ReadmeTest test = new ReadmeTest();
        String readme = Files.readString(Path.of("README.md"));
        Matcher block = Pattern.compile("(?s)```java\n(.*?)```").matcher(readme);
        while (block.find()) {
            for (String line : block.group(1).split("\n")) {
                Run.sentence(0, line);
                test.line(line);
            }
        }
        test.allAreShown();
        Run.sentence(0, "README.md says how the tests are run");
        if (!readme.contains("bash .ci/run")) {
            Run.fail("it does not");
        }
        Run.finish();
    }

    private void line(String line) {
        Matcher typed = TYPED.matcher(line);
        Matcher call = CALL.matcher(line);
        if (NEW.matcher(line).matches()) {
            run = new Run();
        } else if (typed.matches()) {
            for (char c : typed.group(1).toCharArray()) {
                run.then("type", c);
            }
        } else if (call.matches()) {
            shown.add(call.group(1));
            run.due(Long.parseLong(call.group(3)), call.group(1), numbers(call.group(2)));
        } else {
            Run.fail("this line tells no call with its answer");
        }
    }

    private static int[] numbers(String told) {
        if (told.isBlank()) {
            return new int[0];
        }
        String[] parts = told.split(", ");
        int[] all = new int[parts.length];
        for (int i = 0; i < parts.length; i++) {
            all[i] = Integer.parseInt(parts[i]);
        }
        return all;
    }

    private void allAreShown() {
        for (Method m : AvalancheVote.class.getDeclaredMethods()) {
            if (Modifier.isPublic(m.getModifiers())) {
                Run.sentence(0, m.getName());
                if (!shown.contains(m.getName())) {
                    Run.fail("README.md does not show it");
                }
            }
        }
    }
}
