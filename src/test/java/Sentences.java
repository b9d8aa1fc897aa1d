import java.util.HashMap;
import java.util.List;
import java.util.Map;

/** What the tests of single sentences share. */
abstract class Sentences {
    private static final Map<String, List<String>> SEEN_ALREADY = new HashMap<>();

    private final Checks checks;
    private final Document document;
    private String section = "";

    Sentences(Checks checks, Document document) {
        this.checks = checks;
        this.document = document;
    }

    abstract void test();

    /** The sentence that the checks from here on are about. */
    final void says(String inSection, String words) {
        section = inSection;
        checks.due("the document has, in " + inSection + ": " + words, document.names(inSection, words) ? 1 : 0, 1);
    }

    final void due(String what, int got, int want) {
        checks.due(section + ": " + what, got, want);
    }

    /** Rows on a new object; those with an answer are checked. */
    final Run run(String rows) {
        return new Run(section, checks).rows(rows);
    }

    /** Each row on an object of its own: it answers this, and nothing is otherwise behind it. */
    final void changesNothing(String scene, String rows) {
        List<String> ahead = SEEN_ALREADY.computeIfAbsent(scene, Everything::behind);
        for (String row : rows.split(";")) {
            run(scene + row);
            same(row, Everything.behind(scene + row), ahead);
        }
    }

    /** Each row on an object of its own: it answers this, is known, and all is as ahead of it when it is UNDONE. */
    final void canBeUndone(String scene, String rows) {
        List<String> ahead = SEEN_ALREADY.computeIfAbsent(scene, Everything::behind);
        int known = run(scene).row("count(6)");
        for (String row : rows.split(";")) {
            run(scene + row + "; count(6) = " + (known + 1) + "; undo() = " + known);
            same(row + " undone", Everything.behind(scene + row + "; undo()"), ahead);
        }
    }

    /** The rows that are asked answer behind the change as they do ahead of it. */
    final void leaves(String scene, String change, String asked) {
        Run ahead = run(scene);
        Run behind = run(scene + change);
        for (String row : asked.split(";")) {
            due(row + " behind " + change, behind.row(row.trim()), ahead.row(row.trim()));
        }
    }

    /** Two objects, each behind a run of its own, answer alike, whatever is asked but what can be UNDONE. */
    final void alike(String rows, String otherRows) {
        same(rows + " is as " + otherRows, Everything.now(rows), Everything.now(otherRows));
    }

    private void same(String what, List<String> got, List<String> want) {
        due(what + ": findings", got.size(), want.size());
        for (int i = 0; i < got.size() && i < want.size(); i++) {
            boolean isSame = got.get(i).equals(want.get(i));
            due(what + ": " + (isSame ? "" : got.get(i) + ", and not " + want.get(i)), isSame ? 1 : 0, 1);
        }
    }
}
