import java.io.IOException;
import java.lang.reflect.Constructor;
import java.lang.reflect.Field;
import java.lang.reflect.Method;
import java.lang.reflect.Modifier;
import java.nio.file.Files;
import java.nio.file.Path;
import java.util.ArrayList;
import java.util.Arrays;
import java.util.List;
import java.util.TreeSet;
import java.util.regex.Matcher;
import java.util.regex.Pattern;

/** The face, and those rules of LANGUAGE.md that can be seen from the text or the compiled class. */
public final class LanguageTest {
    private static final Checks CHECKS = new Checks();
    private static final String FACE = "back(1) begins(0) bit(1) chaser(2) chases(2) count(1) dropped(2) edge(1) "
        + "forget(0) frame(1) holds(1) keep(1) lays(3) misses(0) number(1) offsets(2) plays(4) rates(1) reader(1) "
        + "reading(1) sees(2) there(1) undo(0) unseen(0) wheel(1) winds(1)";
    private static final String[] FORBIDDEN = {
        "\\bimport\\b", "\\bpackage\\b", "\\bthrow\\b", "\\bthrows\\b", "\\btry\\b", "\\bcatch\\b",
        "\\bsynchronized\\b", "\\bassert\\b", "->", "::", "Exact\\b", "\\bhashCode\\b", "\\btoString\\b",
        "\\bequals\\b", "static \\{", "\\bThread\\b", "\\bRandom\\b", "\\bSystem\\.(?!arraycopy\\b)",
        "\\bprotected\\b", "\\bnative\\b", "\\bObject\\b", "\\bLong\\b"
    };

    public static void main(String[] args) throws IOException {
        face();
        constants();
        classes();
        String text = Files.readString(Path.of("src/main/java/FrameClocks.java"));
        String code = text.replaceAll("(?s)/\\*.*?\\*/", "").replaceAll("//[^\\n]*", "");
        for (String pattern : FORBIDDEN) {
            Matcher found = Pattern.compile(pattern).matcher(code);
            CHECKS.due("no " + pattern, found.find() ? 1 : 0, 0);
        }
        CHECKS.due("characters", text.chars().allMatch(c -> c < 128) ? 0 : 1, 0);
        longMethods(text);
        CHECKS.end();
    }

    private static void face() {
        TreeSet<String> names = new TreeSet<>();
        for (Method method : FrameClocks.class.getDeclaredMethods()) {
            int modifiers = method.getModifiers();
            String told = method.getName() + "(" + method.getParameterCount() + ")";
            if (Modifier.isPublic(modifiers)) {
                names.add(told);
                CHECKS.due(told + " answers int", method.getReturnType() == int.class ? 1 : 0, 1);
                for (Class<?> type : method.getParameterTypes()) {
                    CHECKS.due(told + " takes int", type == int.class ? 1 : 0, 1);
                }
            } else {
                CHECKS.due(told + " is private", Modifier.isPrivate(modifiers) ? 1 : 0, 1);
                CHECKS.due(told + " has a name of its own", FACE.contains(method.getName() + "(") ? 1 : 0, 0);
            }
        }
        String all = String.join(" ", names);
        if (!all.equals(FACE)) {
            System.out.println("the face is " + all);
        }
        CHECKS.due("the face", all.equals(FACE) ? 1 : 0, 1);
        Constructor<?>[] constructors = FrameClocks.class.getDeclaredConstructors();
        CHECKS.due("one constructor", constructors.length, 1);
        CHECKS.due("it is public", Modifier.isPublic(constructors[0].getModifiers()) ? 1 : 0, 1);
        CHECKS.due("final", Modifier.isFinal(FrameClocks.class.getModifiers()) ? 1 : 0, 1);
    }

    private static void constants() {
        List<String> names = new ArrayList<>();
        for (Field field : FrameClocks.class.getDeclaredFields()) {
            int modifiers = field.getModifiers();
            if (Modifier.isPublic(modifiers)) {
                names.add(field.getName());
            } else {
                CHECKS.due(field.getName() + " is private", Modifier.isPrivate(modifiers) ? 1 : 0, 1);
            }
        }
        CHECKS.due("constants", names.equals(List.of("BAD", "STATE", "FULL", "NONE", "NO")) ? 1 : 0, 1);
        CHECKS.due("BAD", FrameClocks.BAD, -1);
        CHECKS.due("STATE", FrameClocks.STATE, -2);
        CHECKS.due("FULL", FrameClocks.FULL, -3);
        CHECKS.due("NONE", FrameClocks.NONE, -9);
        CHECKS.due("NO", FrameClocks.NO, -2147483647);
    }

    private static void classes() {
        Class<?>[] inside = FrameClocks.class.getDeclaredClasses();
        CHECKS.due("at most twelve classes", inside.length + 1 <= 12 ? 1 : 0, 1);
        List<Class<?>> all = new ArrayList<>(Arrays.asList(inside));
        all.add(FrameClocks.class);
        for (Class<?> one : all) {
            boolean isFace = one == FrameClocks.class;
            CHECKS.due(one + " is static", isFace || Modifier.isStatic(one.getModifiers()) ? 1 : 0, 1);
            CHECKS.due(one + " is not public", !isFace && Modifier.isPublic(one.getModifiers()) ? 1 : 0, 0);
            int fields = 0;
            for (Field field : one.getDeclaredFields()) {
                boolean isStatic = Modifier.isStatic(field.getModifiers());
                fields += isStatic ? 0 : 1;
                CHECKS.due(field + " is final", !isStatic || Modifier.isFinal(field.getModifiers()) ? 1 : 0, 1);
            }
            CHECKS.due(one + ": at most twenty fields", fields <= 20 ? 1 : 0, 1);
            for (Method method : one.getDeclaredMethods()) {
                CHECKS.due(method + ": at most seven parameters", method.getParameterCount() <= 7 ? 1 : 0, 1);
            }
        }
    }

    /** A method begins with a line that ends with ") {" at a member's depth, and ends at the same depth. */
    private static void longMethods(String text) {
        String[] lines = text.split("\n");
        int methods = 0;
        for (int i = 0; i < lines.length; i++) {
            Matcher head = Pattern.compile("^( {4}| {8})(?! |return|if|for).*\\) \\{$").matcher(lines[i]);
            if (!head.find()) {
                continue;
            }
            int end = i;
            while (end < lines.length && !lines[end].equals(head.group(1) + "}")) {
                end++;
            }
            methods++;
            CHECKS.due("short: " + lines[i].trim(), end - i < 60 ? 1 : 0, 1);
        }
        CHECKS.due("methods were found", methods > 50 ? 1 : 0, 1);
    }
}
