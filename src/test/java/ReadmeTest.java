import java.io.IOException;
import java.lang.reflect.Method;
import java.lang.reflect.Modifier;
import java.nio.file.Files;
import java.nio.file.Path;
import java.util.Set;
import java.util.TreeSet;
import java.util.regex.Matcher;
import java.util.regex.Pattern;

/** The examples of README.md answer what stands behind them, and leave no call out. */
public final class ReadmeTest {
    private static final Pattern BLOCK = Pattern.compile("```java\\n(.*?)```", Pattern.DOTALL);
    private static final Pattern CALL = Pattern.compile("x\\.(\\w+)(\\([^)]*\\));\\s*// (\\w+|-\\d+)(:.*)?");
    private static final Pattern CONSTANT = Pattern.compile("`(\\w+)` \\((-\\d+)\\)");
    private static final Checks CHECKS = new Checks();

    private final Set<String> made = new TreeSet<>();

    public static void main(String[] args) throws IOException {
        new ReadmeTest().go(Files.readString(Path.of("README.md")));
        CHECKS.end();
    }

    private void go(String text) {
        Matcher blocks = BLOCK.matcher(text);
        int many = 0;
        while (blocks.find()) {
            many++;
            example("README, example " + many, blocks.group(1).split("\n"));
        }
        CHECKS.due("examples", many > 0 ? 1 : 0, 1);
        for (Method method : FrameClocks.class.getDeclaredMethods()) {
            boolean isMade = made.contains(method.getName());
            CHECKS.due("an example has " + method.getName(), isMade || !Modifier.isPublic(method.getModifiers()) ? 1 : 0, 1);
        }
        constants(text);
    }

    private void example(String name, String[] lines) {
        Run run = new Run(name, CHECKS);
        CHECKS.due(name + " begins with a new object", lines[0].equals("FrameClocks x = new FrameClocks();") ? 1 : 0, 1);
        for (int i = 1; i < lines.length; i++) {
            Matcher call = CALL.matcher(lines[i]);
            boolean isCall = call.matches();
            CHECKS.due(name + " has a call with its answer: " + lines[i], isCall ? 1 : 0, 1);
            if (isCall) {
                made.add(call.group(1));
                run.row(call.group(1) + call.group(2).replace("FrameClocks.", "") + " = " + call.group(3));
            }
        }
    }

    private static void constants(String text) {
        Matcher constants = CONSTANT.matcher(text);
        int many = 0;
        while (constants.find()) {
            many++;
            CHECKS.due("README: " + constants.group(1), Run.value(constants.group(1)), Integer.parseInt(constants.group(2)));
        }
        CHECKS.due("README: constants", many, 5);
    }
}
