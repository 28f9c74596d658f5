import java.util.ArrayDeque;
import java.util.ArrayList;
import java.util.Deque;
import java.util.List;
import java.util.regex.Matcher;
import java.util.regex.Pattern;

/**
 * The document in its plainest words, written apart from the class: nothing is
 * kept that can be counted anew. RandomRunsTest holds the class against it.
 */
final class Model {
    static final int UNKNOWN = -1, BAD_VALUE = -2, FULL = -3, NOT_POSSIBLE = -4, NONE = -5;
    private static final String NUMBER = "(0|[1-9][0-9]{0,2})";
    private static final Pattern BLOCK = Pattern.compile(
            "([0-3]):" + NUMBER + "-" + NUMBER + "=" + "(" + NUMBER + "(?:," + NUMBER + "){0,15})");

    private static final class Rows {
        int layer, bottom, top, read;
        List<Integer> values = new ArrayList<>();

        Rows copy() {
            Rows c = new Rows();
            c.layer = layer;
            c.bottom = bottom;
            c.top = top;
            c.read = read;
            c.values.addAll(values);
            return c;
        }
    }

    private static final class Asked {
        int kind, layers, limit, tolerance;
        int[] kept;

        Asked copy() {
            Asked c = new Asked();
            c.kind = kind;
            c.layers = layers;
            c.limit = limit;
            c.tolerance = tolerance;
            c.kept = kept;
            return c;
        }
    }

    private static final class World {
        List<Rows> blocks = new ArrayList<>();
        List<Asked> questions = new ArrayList<>();
        int plan, turn;

        World copy() {
            World c = new World();
            for (Rows b : blocks) {
                c.blocks.add(b.copy());
            }
            for (Asked q : questions) {
                c.questions.add(q.copy());
            }
            c.plan = plan;
            c.turn = turn;
            return c;
        }
    }

    private World now = new World();
    private World snapshot;
    private final Deque<World> history = new ArrayDeque<>();
    private String text = "";

    // ---- what follows from a state

    private static boolean belongs(Rows b, Asked q) {
        return (q.layers & (1 << b.layer)) != 0;
    }

    private static int guessOf(World w, Rows block) {
        int sum = 0, n = 0;
        for (Rows b : w.blocks) {
            if (b.layer == block.layer) {
                for (int i = 0; i < b.read; i++) {
                    sum += b.values.get(i);
                    n++;
                }
            }
        }
        if (n == 0) {
            return (block.bottom + block.top) / 2;
        }
        int mean = sum / n;
        if (mean < block.bottom) {
            return block.bottom;
        }
        return mean > block.top ? block.top : mean;
    }

    /** how: 0 with bottoms, 1 with tops, 2 with guesses. */
    private static int answer(World w, Asked q, int how) {
        List<Integer> all = new ArrayList<>();
        for (Rows b : w.blocks) {
            if (belongs(b, q)) {
                for (int i = 0; i < b.values.size(); i++) {
                    int unread = how == 0 ? b.bottom : how == 1 ? b.top : guessOf(w, b);
                    all.add(i < b.read ? b.values.get(i) : unread);
                }
            }
        }
        if (all.isEmpty()) {
            return NONE;
        }
        int sum = 0, atLeast = 0, least = Integer.MAX_VALUE, greatest = Integer.MIN_VALUE;
        for (int v : all) {
            sum += v;
            if (v >= q.limit) {
                atLeast++;
            }
            least = Math.min(least, v);
            greatest = Math.max(greatest, v);
        }
        return new int[] {sum, atLeast, least, greatest, Math.floorDiv(100 * sum, all.size())}[q.kind];
    }

    private static int rows(World w, Asked q, boolean readOnly) {
        int n = 0;
        for (Rows b : w.blocks) {
            if (q == null || belongs(b, q)) {
                n += readOnly ? b.read : b.values.size();
            }
        }
        return n;
    }

    private static int weight(World w, Rows b) {
        int weight = 0;
        for (Asked q : w.questions) {
            if (q.kept != null || !belongs(b, q)) {
                continue;
            }
            if (q.kind == 0 || q.kind == 4) {
                weight += b.top - b.bottom;
            } else if (q.kind == 1) {
                weight += b.bottom < q.limit && !(b.top < q.limit) ? 100 : 0;
            } else if (q.kind == 2) {
                weight += b.bottom < answer(w, q, 1) ? 100 : 0;
            } else {
                weight += b.top > answer(w, q, 0) ? 100 : 0;
            }
        }
        return weight;
    }

    private static int open(World w) {
        int n = 0;
        for (Asked q : w.questions) {
            n += q.kept == null ? 1 : 0;
        }
        return n;
    }

    private static void keepAnswers(World w, Asked q) {
        q.kept = new int[] {answer(w, q, 0), answer(w, q, 1), answer(w, q, 2)};
    }

    private static void look(World w) {
        for (Asked q : w.questions) {
            if (q.kept == null && rows(w, q, false) > 0
                    && answer(w, q, 1) - answer(w, q, 0) <= q.tolerance) {
                keepAnswers(w, q);
            }
        }
    }

    private static int nextBlock(World w) {
        int n = w.blocks.size(), found = NONE, most = -1;
        for (int k = 0; k < n; k++) {
            int i = w.plan == 0 ? (w.turn + k) % n : k;
            Rows b = w.blocks.get(i);
            int left = b.values.size() - b.read;
            if (left == 0) {
                continue;
            }
            if (w.plan == 0) {
                return i;
            }
            int rank = w.plan == 1 ? left * (b.top - b.bottom) : weight(w, b);
            if (rank > most) {
                most = rank;
                found = i;
            }
        }
        return found;
    }

    private static boolean step(World w) {
        int i = nextBlock(w);
        if (i == NONE) {
            return false;
        }
        w.blocks.get(i).read++;
        if (w.plan == 0) {
            w.turn = i == w.blocks.size() - 1 ? 0 : i + 1;
        }
        look(w);
        return true;
    }

    private void record() {
        history.addLast(now.copy());
        if (history.size() > 4) {
            history.removeFirst();
        }
    }

    private boolean noBlock(int block) {
        return block < 0 || block >= now.blocks.size();
    }

    private boolean noRow(int block, int row) {
        return noBlock(block) || row < 0 || row >= now.blocks.get(block).values.size();
    }

    private boolean noQuestion(int question) {
        return question < 0 || question >= now.questions.size();
    }

    private static boolean out(int value, int first, int last) {
        return value < first || value > last;
    }

    // ---- the calls

    int addBlock() {
        Matcher m = BLOCK.matcher(text);
        if (!m.matches()) {
            for (int n = 1; n <= text.length(); n++) {
                Matcher part = BLOCK.matcher(text.substring(0, n));
                if (!part.matches() && !part.hitEnd()) {
                    return -100 - (n - 1);
                }
            }
            return -100 - text.length();
        }
        Rows b = new Rows();
        b.layer = Integer.parseInt(m.group(1));
        b.bottom = Integer.parseInt(m.group(2));
        b.top = Integer.parseInt(m.group(3));
        boolean bad = b.bottom > b.top;
        for (String value : m.group(4).split(",")) {
            int v = Integer.parseInt(value);
            b.values.add(v);
            bad |= out(v, b.bottom, b.top);
        }
        if (bad) {
            return BAD_VALUE;
        }
        if (now.blocks.size() == 8) {
            return FULL;
        }
        record();
        now.blocks.add(b);
        look(now);
        return now.blocks.size() - 1;
    }

    int addRow(int block, int value) {
        if (noBlock(block)) {
            return UNKNOWN;
        }
        Rows b = now.blocks.get(block);
        if (out(value, b.bottom, b.top)) {
            return BAD_VALUE;
        }
        if (b.values.size() == 16) {
            return FULL;
        }
        record();
        b.values.add(value);
        look(now);
        return b.values.size();
    }

    int change(int block, int row, int value) {
        if (noRow(block, row)) {
            return UNKNOWN;
        }
        Rows b = now.blocks.get(block);
        if (out(value, b.bottom, b.top)) {
            return BAD_VALUE;
        }
        if (b.values.get(row) == value) {
            return NONE;
        }
        record();
        b.values.set(row, value);
        look(now);
        return row < b.read ? 1 : 0;
    }

    int narrow(int block) {
        if (noBlock(block)) {
            return UNKNOWN;
        }
        Rows b = now.blocks.get(block);
        int least = java.util.Collections.min(b.values), greatest = java.util.Collections.max(b.values);
        if (least == b.bottom && greatest == b.top) {
            return NONE;
        }
        record();
        int less = (b.top - b.bottom) - (greatest - least);
        b.bottom = least;
        b.top = greatest;
        look(now);
        return less;
    }

    int forget() {
        int n = rows(now, null, true);
        if (n == 0) {
            return NONE;
        }
        record();
        for (Rows b : now.blocks) {
            b.read = 0;
        }
        look(now);
        return n;
    }

    int ask(int kind, int layers, int limit, int tolerance) {
        if (out(kind, 0, 4) || out(layers, 1, 15) || out(limit, 0, 999)
                || kind != 1 && limit != 0 || out(tolerance, 0, 99999)) {
            return BAD_VALUE;
        }
        if (now.questions.size() == 6) {
            return FULL;
        }
        record();
        Asked q = new Asked();
        q.kind = kind;
        q.layers = layers;
        q.limit = limit;
        q.tolerance = tolerance;
        now.questions.add(q);
        look(now);
        return now.questions.size() - 1;
    }

    int setTolerance(int question, int tolerance) {
        if (noQuestion(question)) {
            return UNKNOWN;
        }
        Asked q = now.questions.get(question);
        if (out(tolerance, 0, 99999)) {
            return BAD_VALUE;
        }
        if (q.kept != null) {
            return NOT_POSSIBLE;
        }
        if (q.tolerance == tolerance) {
            return NONE;
        }
        record();
        int previous = q.tolerance;
        q.tolerance = tolerance;
        look(now);
        return previous;
    }

    int stop(int question) {
        if (noQuestion(question)) {
            return UNKNOWN;
        }
        Asked q = now.questions.get(question);
        if (q.kept != null || rows(now, q, false) == 0) {
            return NOT_POSSIBLE;
        }
        record();
        keepAnswers(now, q);
        return q.kept[2];
    }

    int drop(int question) {
        if (noQuestion(question)) {
            return UNKNOWN;
        }
        record();
        now.questions.remove(question);
        return now.questions.size();
    }

    int setPlan(int plan) {
        if (out(plan, 0, 2)) {
            return BAD_VALUE;
        }
        if (now.plan == plan) {
            return NONE;
        }
        record();
        int previous = now.plan;
        now.plan = plan;
        return previous;
    }

    int read(int rows) {
        if (out(rows, 1, 128)) {
            return BAD_VALUE;
        }
        if (nextBlock(now) == NONE) {
            return NONE;
        }
        record();
        int n = 0;
        while (n < rows && step(now)) {
            n++;
        }
        return n;
    }

    int readOn() {
        if (open(now) == 0) {
            return NOT_POSSIBLE;
        }
        if (nextBlock(now) == NONE) {
            return NONE;
        }
        record();
        return readOn(now);
    }

    private static int readOn(World w) {
        int n = 0;
        while (open(w) > 0 && step(w)) {
            n++;
        }
        return n;
    }

    int readFrom(int block) {
        if (noBlock(block)) {
            return UNKNOWN;
        }
        Rows b = now.blocks.get(block);
        if (b.read == b.values.size()) {
            return NONE;
        }
        record();
        b.read++;
        look(now);
        return b.values.get(b.read - 1);
    }

    int type(char character) {
        if (text.length() == 80) {
            return FULL;
        }
        text += character;
        return text.length();
    }

    int clearText() {
        int n = text.length();
        text = "";
        return n;
    }

    int undo() {
        if (history.isEmpty()) {
            return NONE;
        }
        now = history.removeLast();
        return history.size();
    }

    int keep() {
        snapshot = now.copy();
        return rows(now, null, true);
    }

    int restore() {
        if (snapshot == null) {
            return NONE;
        }
        record();
        now = snapshot.copy();
        return rows(now, null, true);
    }

    int block(int block, int what) {
        if (noBlock(block)) {
            return UNKNOWN;
        }
        if (out(what, 0, 6)) {
            return BAD_VALUE;
        }
        Rows b = now.blocks.get(block);
        int sum = 0;
        for (int v : b.values.subList(0, b.read)) {
            sum += v;
        }
        return new int[] {b.layer, b.bottom, b.top, b.values.size(), b.read, weight(now, b), sum}[what];
    }

    int value(int block, int row) {
        if (noRow(block, row)) {
            return UNKNOWN;
        }
        Rows b = now.blocks.get(block);
        return row < b.read ? b.values.get(row) : NOT_POSSIBLE;
    }

    int question(int question, int what) {
        if (noQuestion(question)) {
            return UNKNOWN;
        }
        if (out(what, 0, 12)) {
            return BAD_VALUE;
        }
        Asked q = now.questions.get(question);
        if (what >= 5 && what <= 7) {
            return answer(now, q, what - 5);
        }
        if (what >= 8 && what <= 10) {
            return q.kept == null ? NONE : q.kept[what - 8];
        }
        if (what >= 11) {
            return rows(now, q, what == 12);
        }
        return new int[] {q.kind, q.layers, q.limit, q.tolerance, q.kept == null ? 0 : 1}[what];
    }

    int next(int what) {
        if (out(what, 0, 1)) {
            return BAD_VALUE;
        }
        int n = nextBlock(now);
        return n == NONE || what == 0 ? n : now.blocks.get(n).read;
    }

    int stopsIn(int question) {
        if (noQuestion(question)) {
            return UNKNOWN;
        }
        if (now.questions.get(question).kept != null) {
            return NOT_POSSIBLE;
        }
        World w = now.copy();
        int n = 0;
        while (w.questions.get(question).kept == null) {
            if (!step(w)) {
                return NONE;
            }
            n++;
        }
        return n;
    }

    int best(int what) {
        if (out(what, 0, 1)) {
            return BAD_VALUE;
        }
        if (open(now) == 0) {
            return NOT_POSSIBLE;
        }
        int best = NONE, fewest = Integer.MAX_VALUE;
        for (int plan = 0; plan < 3; plan++) {
            World w = now.copy();
            w.plan = plan;
            int n = readOn(w);
            if (open(w) == 0 && n < fewest) {
                fewest = n;
                best = plan;
            }
        }
        return best == NONE || what == 0 ? best : fewest;
    }

    int count(int what) {
        if (out(what, 0, 8)) {
            return BAD_VALUE;
        }
        return new int[] {now.blocks.size(), now.questions.size(), open(now), now.plan,
            rows(now, null, false), rows(now, null, true), now.turn, history.size(), text.length()}[what];
    }
}
