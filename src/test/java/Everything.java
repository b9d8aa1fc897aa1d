import java.util.ArrayList;
import java.util.List;

/**
 * All that can be found out about an object behind a run of calls, a line for each finding.
 * The run is made anew for each part, as looking at what can be UNDONE, or at an IMAGE, changes the object.
 */
final class Everything {
    private static final int WORDS_A_RUN = 8;

    private final String script;
    private final List<String> lines = new ArrayList<>();

    private Everything(String script) {
        this.script = script;
    }

    static List<String> behind(String script) {
        Everything all = new Everything(script);
        all.asks();
        all.tape();
        all.undone();
        all.undoneTapes();
        all.images();
        all.bitsHeld();
        return all.lines;
    }

    /** The same, but for SEEN, what can be UNDONE and IMAGES. */
    static List<String> now(String script) {
        Everything all = new Everything(script);
        Run run = all.made();
        all.lookAround("", run);
        all.tape();
        all.bitsHeld();
        all.lines.removeIf(line -> line.contains("count(5)") || line.contains("count(6)"));
        return all.lines;
    }

    private Run made() {
        return new Run().rows(script);
    }

    private void look(String where, Run run, String row) {
        lines.add(where + row + " is " + run.row(row));
    }

    private void lookAround(String where, Run run) {
        for (int i = 0; i < 8; i++) {
            look(where, run, "reader(" + i + ")");
        }
        for (int i = 0; i < 7; i++) {
            look(where, run, "count(" + i + ")");
        }
        for (int i = 0; i < 5; i++) {
            look(where, run, "wheel(" + i + ")");
        }
        for (int i = 0; i < 4; i++) {
            look(where, run, "reading(" + i + ")");
            for (int c = 0; c < 3; c++) {
                look(where, run, "chaser(" + c + ", " + i + ")");
            }
        }
    }

    private void lookAtWord(String where, Run run, int place) {
        StringBuilder bits = new StringBuilder();
        for (int h = 48 * place; h < 48 * place + 48; h++) {
            bits.append(run.row("bit(" + h + ")")).append(' ');
        }
        lines.add(where + "word " + place + " is " + bits);
    }

    private void asks() {
        Run run = made();
        lookAround("", run);
        for (int c = 0; c < 3; c++) {
            look("", run, "there(" + c + ")");
        }
        look("", run, "unseen()");
        look("", run, "forget()");
    }

    private void tape() {
        int words = made().row("count(3)") / 48;
        for (int from = 0; from < words; from += WORDS_A_RUN) {
            Run run = made();
            for (int place = from; place < words && place < from + WORDS_A_RUN; place++) {
                lookAtWord("", run, place);
            }
        }
    }

    private void undone() {
        Run run = made();
        for (int i = 1; i <= 9; i++) {
            String where = "undone " + i + ": ";
            look(where, run, "undo()");
            lookAround(where, run);
        }
    }

    private void undoneTapes() {
        Run run = made();
        for (int i = 1; i <= 9; i++) {
            String where = "undone " + i + ": ";
            run.row("undo()");
            lookAtWord(where, run, 0);
        }
    }

    private void images() {
        Run run = made();
        for (int image : new int[] {0, 1, 0}) {
            String where = "image " + image + ": ";
            look(where, run, "back(" + image + ")");
            lookAround(where, run);
            lookAtWord(where, run, 0);
        }
    }

    /** What THE READER holds shows when the last BITS of a word come behind it. */
    private void bitsHeld() {
        Run run = made();
        for (int bit : new int[] {1, 1, 1, 1, 1, 1, 0, 1}) {
            run.rows(Scenes.edges(Integer.toString(bit)));
            look("as a word ends: ", run, "reader(2)");
        }
        lookAround("a word ended: ", run);
    }
}
