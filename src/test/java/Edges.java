import java.util.ArrayList;
import java.util.HashMap;
import java.util.List;
import java.util.Map;

/**
 * Looks at one call behind some steps, each time with new objects: at its
 * answer, and at every answer of the object behind it: all that is told, what
 * undo() and restore() bring back, the values that were not read, and the text.
 */
final class Edges {
    /** What is told now, behind one to four undo(), and behind restore(). */
    private static final int NOW = 0, FIRST_UNDO = 1, LAST_UNDO = 4, RESTORED = 5;

    private final Checks checks;
    private final Map<String, List<String>> pictures = new HashMap<>();

    Edges(String name) {
        checks = new Checks(name);
    }

    /** An act: the answer; the state before it is recorded, and all else stays. */
    void act(String message, String steps, String call, int want) {
        actOnce(message, steps, call, want);
        if (hasNoSnapshot(steps, call)) {
            actOnce(message, join("keep()", steps), call, want);
        }
    }

    /** A call that returns an error or NONE, or one that only tells: nothing changes. */
    void stays(String message, String steps, String call, int want) {
        staysOnce(message, steps, call, want);
        if (hasNoSnapshot(steps, call)) {
            staysOnce(message, join("keep()", steps), call, want);
        }
    }

    private static boolean hasNoSnapshot(String steps, String call) {
        return !join(steps, call).contains("keep()") && !join(steps, call).contains("restore()");
    }

    private void actOnce(String message, String steps, String call, int want) {
        String behind = answered(message, steps, call, want);
        int states = Script.of(steps).run("count(7)");
        int left = Math.min(4, states + 1);
        due(message, behind, "count(7)", left);
        due(message, behind, "undo()", left - 1);
        due(message, behind, "count(8)", Script.of(steps).run("count(8)"));
        for (int undone = FIRST_UNDO; undone <= left; undone++) {
            same(message, behind, state(steps, undone - 1), state(behind, undone));
        }
        sameSnapshot(message, steps, behind);
    }

    private void staysOnce(String message, String steps, String call, int want) {
        String behind = answered(message, steps, call, want);
        same(message, behind, recorded(steps), recorded(behind));
        for (int from = NOW; from <= LAST_UNDO; from++) {
            same(message, behind, state(steps, from), state(behind, from));
        }
        sameSnapshot(message, steps, behind);
        same(message, behind, text(steps), text(behind));
    }

    /** A call on the text: the state, the history and the snapshot stay. */
    void ofText(String message, String steps, String call, int want) {
        String behind = answered(message, steps, call, want);
        due(message, behind, "count(7)", Script.of(steps).run("count(7)"));
        for (int from = NOW; from <= LAST_UNDO; from++) {
            same(message, behind, state(steps, from), state(behind, from));
        }
        sameSnapshot(message, steps, behind);
    }

    /** keep(): only the snapshot changes, and it is the state by now. */
    void keeps(String message, String steps, int want) {
        String behind = answered(message, steps, "keep()", want);
        same(message, behind, recorded(steps), recorded(behind));
        for (int from = NOW; from <= LAST_UNDO; from++) {
            same(message, behind, state(steps, from), state(behind, from));
        }
        same(message, behind, state(steps, NOW), state(behind, RESTORED));
        due(message, behind, "restore()", want);
        same(message, behind, text(steps), text(behind));
    }

    /** undo(): the state before the latest act; the text and the snapshot stay. */
    void undoes(String message, String steps, String act) {
        String done = join(steps, act);
        int left = Script.of(done).run("count(7)") - 1;
        String behind = answered(message, done, "undo()", left);
        due(message, behind, "count(7)", left);
        due(message, behind, "count(8)", Script.of(done).run("count(8)"));
        for (int undone = NOW; undone <= left; undone++) {
            same(message, behind, state(steps, undone), state(behind, undone));
        }
        sameSnapshot(message, done, behind);
    }

    /** The answer alone: of a call that only tells, behind calls that do something. */
    void due(String message, String steps, String call, int want) {
        checks.due(message + " | " + join(steps, call), Script.of(steps).run(call), want);
    }

    void end() {
        checks.end();
    }

    private String answered(String message, String steps, String call, int want) {
        due(message, steps, call, want);
        return join(steps, call);
    }

    private static String join(String steps, String call) {
        return steps.isEmpty() || call.isEmpty() ? steps + call : steps + "; " + call;
    }

    private void sameSnapshot(String message, String steps, String behind) {
        int rows = Script.of(steps).run("restore()");
        due(message, behind, "restore()", rows);
        if (rows != SureAnswers.NONE) {
            same(message, behind, state(steps, RESTORED), state(behind, RESTORED));
        }
    }

    private void same(String message, String steps, List<String> want, List<String> got) {
        int at = 0;
        while (at < want.size() && at < got.size() && want.get(at).equals(got.get(at))) {
            at++;
        }
        boolean alike = at == want.size() && at == got.size();
        String wanted = at < want.size() ? want.get(at) : "no more";
        String gotten = at < got.size() ? got.get(at) : "no more";
        checks.due(message + " | " + steps + (alike ? "" : " | then " + gotten + ", due is " + wanted),
                alike ? 0 : 1, 0);
    }

    // ---- pictures

    private List<String> state(String steps, int from) {
        return pictures.computeIfAbsent(from + " " + steps, key -> {
            Script script = Script.of(steps);
            if (from == RESTORED) {
                script.run("restore()");
            } else {
                for (int i = 0; i < from; i++) {
                    script.run("undo()");
                }
            }
            return told(script);
        });
    }

    /** All that is told of the state; then the rows that were not read are read. */
    private static List<String> told(Script script) {
        List<String> told = new ArrayList<>();
        for (int what = 0; what <= 6; what++) {
            tell(told, script, "count(" + what + ")");
        }
        int blocks = script.run("count(0)");
        int questions = script.run("count(1)");
        tell(told, script, "next(0)");
        tell(told, script, "next(1)");
        tell(told, script, "best(0)");
        tell(told, script, "best(1)");
        for (int question = 0; question < questions; question++) {
            tell(told, script, "stopsIn(" + question + ")");
            for (int what = 0; what <= 12; what++) {
                tell(told, script, "question(" + question + ", " + what + ")");
            }
        }
        for (int block = 0; block < blocks; block++) {
            for (int what = 0; what <= 6; what++) {
                tell(told, script, "block(" + block + ", " + what + ")");
            }
        }
        for (int block = 0; block < blocks; block++) {
            int rows = script.run("block(" + block + ", 3)");
            int read = script.run("block(" + block + ", 4)");
            for (int row = 0; row < rows; row++) {
                tell(told, script, row < read ? "value(" + block + ", " + row + ")" : "readFrom(" + block + ")");
            }
        }
        return told;
    }

    private static void tell(List<String> told, Script script, String call) {
        told.add(call + " = " + script.run(call));
    }

    /** How many states there are, told by the history itself, and the text's length. */
    private List<String> recorded(String steps) {
        Script script = Script.of(steps);
        List<String> told = new ArrayList<>();
        tell(told, script, "count(7)");
        tell(told, script, "count(8)");
        for (int i = 0; i < 5; i++) {
            tell(told, script, "undo()");
        }
        return told;
    }

    /** What the text is, as far as addBlock() shows it by now and with more behind it. */
    private List<String> text(String steps) {
        List<String> told = new ArrayList<>();
        for (String more : new String[] {"", "type(44)", "type(44); type(53)", "type(48)"}) {
            Script script = Script.of(join(steps, "3 times undo()"));
            script.run(more);
            tell(told, script, "addBlock()");
            tell(told, script, "clearText()");
            told.addAll(told(script));
        }
        return told;
    }
}
