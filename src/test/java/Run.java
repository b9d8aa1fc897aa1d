import java.lang.reflect.InvocationTargetException;
import java.lang.reflect.Method;
import java.lang.reflect.Modifier;
import java.util.HashMap;
import java.util.Map;
import java.util.regex.Matcher;
import java.util.regex.Pattern;

/** A run of calls on a new object, told as text: "lays(0, 2, 0) = 1; winds(97) = BAD". */
final class Run {
    /** The document promises nothing behind these, so no test may go on. */
    private static final int MOST_CALLS = 512;
    private static final Pattern ROW = Pattern.compile("\\s*(\\w+)\\(([^)]*)\\)\\s*(?:=\\s*(\\S+))?\\s*");
    private static final Map<String, Method> FACE = new HashMap<>();

    static {
        for (Method method : FrameClocks.class.getDeclaredMethods()) {
            if (Modifier.isPublic(method.getModifiers())) {
                FACE.put(method.getName(), method);
            }
        }
    }

    private final FrameClocks x = new FrameClocks();
    private final String name;
    private final Checks checks;
    private int calls = 0;

    /** Nothing is checked. */
    Run() {
        this("a run", null);
    }

    /** The name stands ahead of each answer that is not due. */
    Run(String name, Checks checks) {
        this.name = name;
        this.checks = checks;
    }

    /** A row with an answer behind it is checked; the others are only done. */
    Run rows(String rows) {
        for (String row : rows.split(";")) {
            if (!row.isBlank()) {
                row(row.trim());
            }
        }
        return this;
    }

    /** The answer of one row, checked or not. */
    int row(String row) {
        Matcher parts = ROW.matcher(row);
        if (!parts.matches()) {
            throw new IllegalArgumentException("no row: " + row);
        }
        int answer = call(parts.group(1), parts.group(2));
        if (parts.group(3) != null && checks != null) {
            String told = name + ", call " + calls + ": " + parts.group(1) + "(" + parts.group(2) + ")";
            checks.due(told, answer, value(parts.group(3)));
        }
        return answer;
    }

    private int call(String method, String list) {
        calls++;
        if (calls > MOST_CALLS) {
            throw new IllegalStateException(name + ": more than " + MOST_CALLS + " calls on one object");
        }
        String[] texts = list.isBlank() ? new String[0] : list.split(",");
        Object[] values = new Object[texts.length];
        for (int i = 0; i < texts.length; i++) {
            values[i] = value(texts[i].trim());
        }
        try {
            return (Integer) FACE.get(method).invoke(x, values);
        } catch (InvocationTargetException | IllegalAccessException e) {
            throw new IllegalStateException(name + ": " + method + "(" + list + ") threw", e);
        }
    }

    static int value(String text) {
        switch (text) {
            case "BAD": return FrameClocks.BAD;
            case "STATE": return FrameClocks.STATE;
            case "FULL": return FrameClocks.FULL;
            case "NONE": return FrameClocks.NONE;
            case "NO": return FrameClocks.NO;
            case "MIN": return Integer.MIN_VALUE;
            case "MAX": return Integer.MAX_VALUE;
            default: return Integer.parseInt(text);
        }
    }
}
