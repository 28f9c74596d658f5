import java.util.Map;
import java.util.TreeMap;

/**
 * Runs of calls, drawn by a generator with fixed seeds, on the class and on
 * the model beside it: each answer must be the same, and what is told of the
 * whole state at the end of many runs. No object is used for more than its 512
 * calls. It also counts, for each call, which answers came, and fails if the
 * runs did not reach some error or NONE of a @return line.
 */
public final class RandomRunsTest {
    private static final int RUNS = 20000;
    private static final int CALLS = 512;

    private static final class Draw {
        private long seed;

        Draw(long seed) {
            this.seed = seed * 2654435761L + 12345;
        }

        int below(int bound) {
            seed = seed * 6364136223846793005L + 1442695040888963407L;
            return (int) ((seed >>> 33) % bound);
        }

        int from(int first, int last) {
            return first + below(last - first + 1);
        }

        boolean once(int in) {
            return below(in) == 0;
        }

        /** Mostly from first to last, now and then beside it or far from it. */
        int around(int first, int last) {
            switch (below(24)) {
                case 0:
                    return first - 1;
                case 1:
                    return last + 1;
                case 2:
                    return new int[] {Integer.MIN_VALUE, Integer.MAX_VALUE, -1, 1 << 16}[below(4)];
                default:
                    return from(first, last);
            }
        }
    }

    private static final Checks CHECKS = new Checks("RandomRunsTest");
    private static final Map<String, Integer> REACHED = new TreeMap<>();

    private final SureAnswers x = new SureAnswers();
    private final Model m = new Model();
    private final Draw draw;
    private final int run;
    private final int layers;
    private final int span;
    private int calls;

    private RandomRunsTest(int run) {
        this.run = run;
        draw = new Draw(run);
        layers = draw.from(1, 4);
        span = new int[] {0, 1, 5, 30, 999}[draw.below(5)];
    }

    private void same(String name, String arguments, int got, int want) {
        calls++;
        CHECKS.due("run " + run + ", call " + calls + ", " + name + "(" + arguments + ")", got, want);
        String answer = want < 0 && want >= -5 ? name + " " + want : want <= -100 ? name + " fault" : name;
        REACHED.merge(answer, 1, Integer::sum);
    }

    private String number(int value) {
        return draw.once(60) ? "0" + value : String.valueOf(value);
    }

    private String blockText() {
        int bottom = draw.from(0, 999 - span);
        int top = bottom + draw.from(0, span);
        StringBuilder text = new StringBuilder();
        text.append(draw.from(0, layers - 1)).append(':');
        if (draw.once(30)) {
            text.append(number(top + 1)).append('-').append(number(bottom)).append('=');
        } else {
            text.append(number(bottom)).append('-').append(number(top)).append('=');
        }
        int rows = draw.once(8) ? draw.from(14, 17) : draw.from(1, 8);
        for (int i = 0; i < rows; i++) {
            text.append(i == 0 ? "" : ",");
            int value = draw.once(100) ? top + 1 : draw.once(100) ? bottom - 1 : draw.from(bottom, top);
            text.append(number(Math.max(0, value)));
        }
        return text.toString();
    }

    private void typeText() {
        same("clearText", "", x.clearText(), m.clearText());
        String text = blockText();
        if (draw.once(4)) {
            int at = draw.below(text.length() + 1);
            int to = Math.min(text.length(), at + draw.below(2));
            String other = draw.once(3) ? "" : String.valueOf("0123456789:-=,. a\u0130\u0660".charAt(draw.below(19)));
            text = text.substring(0, at) + other + text.substring(to);
        }
        if (draw.once(10)) {
            text = text.substring(0, draw.below(text.length() + 1));
        }
        for (int i = 0; i < text.length() && calls < CALLS; i++) {
            char c = text.charAt(i);
            same("type", String.valueOf((int) c), x.type(c), m.type(c));
        }
    }

    private void typeBlock() {
        typeText();
        if (calls < CALLS) {
            same("addBlock", "", x.addBlock(), m.addBlock());
        }
    }

    private void ask(int kind, int bottom, int top, int tolerance) {
        int set = draw.once(4) ? draw.around(1, 15) : draw.from(1, (1 << layers) - 1);
        int limit = kind == 1 || draw.once(30) ? draw.around(bottom, top) : 0;
        same("ask", kind + ", " + set + ", " + limit + ", " + tolerance,
                x.ask(kind, set, limit, tolerance), m.ask(kind, set, limit, tolerance));
    }

    /** Some blocks and questions to begin with, as typing uses up the calls of a run. */
    private void begin() {
        for (int i = draw.below(6); i > 0; i--) {
            typeBlock();
        }
        for (int i = draw.below(5); i > 0; i--) {
            ask(draw.from(0, 4), 0, span, draw.once(3) ? draw.from(0, span) : 0);
        }
    }

    private void act() {
        int blocks = m.count(0);
        int questions = m.count(1);
        int b = draw.around(0, Math.max(0, blocks - 1));
        int q = draw.around(0, Math.max(0, questions - 1));
        int bottom = Math.max(0, m.block(b, 1));
        int top = Math.max(bottom, m.block(b, 2));
        int row = draw.around(0, Math.max(0, m.block(b, 3) - 1));
        int value = draw.around(bottom, top);
        int tolerance = draw.once(3) ? 0 : draw.around(0, draw.once(3) ? 99999 : span * 10);
        switch (draw.below(30)) {
            case 0:
                typeBlock();
                break;
            case 1: case 2: case 3:
                same("addBlock", "", x.addBlock(), m.addBlock());
                break;
            case 4: case 5:
                same("addRow", b + ", " + value, x.addRow(b, value), m.addRow(b, value));
                break;
            case 6: case 7:
                same("change", b + ", " + row + ", " + value, x.change(b, row, value), m.change(b, row, value));
                break;
            case 8:
                same("narrow", b + "", x.narrow(b), m.narrow(b));
                break;
            case 9:
                if (draw.once(2)) {
                    same("forget", "", x.forget(), m.forget());
                }
                break;
            case 10: case 11: case 12:
                ask(draw.around(0, 4), bottom, top, tolerance);
                break;
            case 13: case 14:
                same("setTolerance", q + ", " + tolerance, x.setTolerance(q, tolerance), m.setTolerance(q, tolerance));
                break;
            case 15:
                same("stop", q + "", x.stop(q), m.stop(q));
                break;
            case 16:
                same("drop", q + "", x.drop(q), m.drop(q));
                break;
            case 17: case 18: {
                int plan = draw.around(0, 2);
                same("setPlan", plan + "", x.setPlan(plan), m.setPlan(plan));
                break;
            }
            case 19: case 20: {
                int rows = draw.around(1, draw.once(8) ? 128 : 3);
                same("read", rows + "", x.read(rows), m.read(rows));
                break;
            }
            case 21:
                if (draw.once(3)) {
                    same("readOn", "", x.readOn(), m.readOn());
                }
                break;
            case 22: case 23:
                same("readFrom", b + "", x.readFrom(b), m.readFrom(b));
                break;
            case 24: {
                char c = (char) draw.below(65536);
                same("type", (int) c + "", x.type(c), m.type(c));
                break;
            }
            case 25: case 26:
                same("undo", "", x.undo(), m.undo());
                break;
            case 27:
                if (draw.once(2)) {
                    same("keep", "", x.keep(), m.keep());
                }
                break;
            case 28:
                same("restore", "", x.restore(), m.restore());
                break;
            default:
                same("clearText", "", x.clearText(), m.clearText());
                break;
        }
    }

    private void look() {
        int b = draw.around(0, Math.max(0, m.count(0) - 1));
        int q = draw.around(0, Math.max(0, m.count(1) - 1));
        int what = draw.around(0, 12);
        int row = draw.around(0, Math.max(0, m.block(b, 3) - 1));
        int part = draw.around(0, 1);
        switch (draw.below(10)) {
            case 0:
                same("block", b + ", " + what, x.block(b, what), m.block(b, what));
                break;
            case 1:
                same("value", b + ", " + row, x.value(b, row), m.value(b, row));
                break;
            case 2: case 3:
                same("question", q + ", " + what, x.question(q, what), m.question(q, what));
                break;
            case 4:
                same("next", part + "", x.next(part), m.next(part));
                break;
            case 5: case 8:
                same("stopsIn", q + "", x.stopsIn(q), m.stopsIn(q));
                break;
            case 6: case 9:
                same("best", part + "", x.best(part), m.best(part));
                break;
            default:
                same("count", what + "", x.count(what), m.count(what));
                break;
        }
    }

    /** Holds what is told of the two states against each other, as far as there are calls left. */
    private void lookAtAll() {
        for (int what = 0; what <= 12; what++) {
            for (int q = 0; q < m.count(1) && calls < CALLS; q++) {
                same("question", q + ", " + what, x.question(q, what), m.question(q, what));
            }
            for (int b = 0; b < m.count(0) && what <= 6 && calls < CALLS; b++) {
                same("block", b + ", " + what, x.block(b, what), m.block(b, what));
            }
            if (what <= 8 && calls < CALLS) {
                same("count", what + "", x.count(what), m.count(what));
            }
        }
        for (int b = 0; b < m.count(0); b++) {
            for (int row = 0; row < m.block(b, 3) && calls < CALLS; row++) {
                same("value", b + ", " + row, x.value(b, row), m.value(b, row));
            }
        }
    }

    private void go() {
        int end = draw.once(2) ? CALLS : draw.from(100, 400);
        begin();
        while (calls < end) {
            if (draw.once(3)) {
                look();
            } else {
                act();
            }
        }
        lookAtAll();
    }

    private static void reached(String call, String... answers) {
        CHECKS.due("reached " + call, REACHED.containsKey(call) ? 1 : 0, 1);
        for (String answer : answers) {
            CHECKS.due("reached " + call + " " + answer, REACHED.containsKey(call + " " + answer) ? 1 : 0, 1);
        }
    }

    private static void lookAtReached() {
        reached("addBlock", "fault", "-2", "-3");
        reached("addRow", "-1", "-2", "-3");
        reached("change", "-1", "-2", "-5");
        reached("narrow", "-1", "-5");
        reached("forget", "-5");
        reached("ask", "-2", "-3");
        reached("setTolerance", "-1", "-2", "-4", "-5");
        reached("stop", "-1", "-4");
        reached("drop", "-1");
        reached("setPlan", "-2", "-5");
        reached("read", "-2", "-5");
        reached("readOn", "-4", "-5");
        reached("readFrom", "-1", "-5");
        reached("type");
        reached("clearText");
        reached("undo", "-5");
        reached("keep");
        reached("restore", "-5");
        reached("block", "-1", "-2");
        reached("value", "-1", "-4");
        reached("question", "-1", "-2", "-5");
        reached("next", "-2", "-5");
        reached("stopsIn", "-1", "-4", "-5");
        reached("best", "-2", "-4", "-5");
        reached("count", "-2");
    }

    public static void main(String[] args) {
        for (int run = 0; run < RUNS; run++) {
            new RandomRunsTest(run).go();
        }
        lookAtReached();
        if (args.length > 0 && args[0].equals("reached")) {
            System.out.println(REACHED);
        }
        CHECKS.end();
    }
}
