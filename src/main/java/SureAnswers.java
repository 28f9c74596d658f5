/**
 * Answers that grow surer as more rows are read, with bounds, until they are
 * sure enough or one says stop. All objects are made with the first one and
 * used again: no call makes any.
 */
public final class SureAnswers {
    public static final int UNKNOWN = -1;
    public static final int BAD_VALUE = -2;
    public static final int FULL = -3;
    public static final int NOT_POSSIBLE = -4;
    public static final int NONE = -5;

    private static final int MAX_BLOCKS = 8;
    private static final int MAX_ROWS = 16;
    private static final int ALL_ROWS = MAX_BLOCKS * MAX_ROWS;
    private static final int MAX_QUESTIONS = 6;
    private static final int MAX_TEXT = 80;
    private static final int MAX_STATES = 4;
    private static final int ALL_LAYERS = 15;
    private static final int MAX_NUMBER = 999;
    private static final int MAX_DIGITS = 3;
    private static final int MAX_TOLERANCE = 99999;
    private static final int FAULT_BASE = -100;
    private static final int PRESSING = 100;

    // The kinds of questions.
    private static final int SUM = 0;
    private static final int HOW_MANY = 1;
    private static final int LEAST = 2;
    private static final int GREATEST = 3;
    private static final int MEAN = 4;

    // The plans.
    private static final int BY_TURN = 0;
    private static final int BY_SPREAD = 1;
    private static final int BY_WEIGHT = 2;

    // What is taken for the values of rows that were not read.
    private static final int BOTTOMS = 0;
    private static final int TOPS = 1;
    private static final int GUESSES = 2;

    private final BlockText text = new BlockText();
    private final State state = new State();
    private final State trial = new State();
    private final State snapshot = new State();
    private final History history = new History();
    private boolean hasSnapshot;

    public SureAnswers() {
        hasSnapshot = false;
    }

    // ---- blocks

    public int addBlock() {
        if (!text.parse()) {
            return FAULT_BASE - text.at;
        }
        if (!text.isInRange()) {
            return BAD_VALUE;
        }
        if (state.blockCount >= MAX_BLOCKS) {
            return FULL;
        }
        history.record(state);
        int added = state.appendBlock(text);
        state.settle();
        return added;
    }

    public int addRow(int block, int value) {
        if (!state.hasBlock(block)) {
            return UNKNOWN;
        }
        Block grown = state.blocks[block];
        if (!grown.allows(value)) {
            return BAD_VALUE;
        }
        if (grown.rows >= MAX_ROWS) {
            return FULL;
        }
        history.record(state);
        grown.append(value);
        state.settle();
        return grown.rows;
    }

    public int change(int block, int row, int value) {
        if (!state.hasRow(block, row)) {
            return UNKNOWN;
        }
        Block changed = state.blocks[block];
        if (!changed.allows(value)) {
            return BAD_VALUE;
        }
        if (changed.values[row] == value) {
            return NONE;
        }
        history.record(state);
        changed.put(row, value);
        state.settle();
        return row < changed.read ? 1 : 0;
    }

    public int narrow(int block) {
        if (!state.hasBlock(block)) {
            return UNKNOWN;
        }
        Block wide = state.blocks[block];
        int least = wide.leastValue();
        int greatest = wide.greatestValue();
        int cut = (wide.top - wide.bottom) - (greatest - least);
        if (cut == 0) {
            return NONE;
        }
        history.record(state);
        wide.bottom = least;
        wide.top = greatest;
        state.settle();
        return cut;
    }

    public int forget() {
        int forgotten = state.readRows(ALL_LAYERS);
        if (forgotten == 0) {
            return NONE;
        }
        history.record(state);
        state.forgetRows();
        state.settle();
        return forgotten;
    }

    // ---- questions

    public int ask(int kind, int layers, int limit, int tolerance) {
        boolean possible = isFromTo(kind, SUM, MEAN)
                && isFromTo(layers, 1, ALL_LAYERS)
                && isFromTo(limit, 0, kind == HOW_MANY ? MAX_NUMBER : 0)
                && isFromTo(tolerance, 0, MAX_TOLERANCE);
        if (!possible) {
            return BAD_VALUE;
        }
        if (state.questionCount >= MAX_QUESTIONS) {
            return FULL;
        }
        history.record(state);
        int asked = state.appendQuestion(kind, layers, limit, tolerance);
        state.settle();
        return asked;
    }

    public int setTolerance(int question, int tolerance) {
        if (!state.hasQuestion(question)) {
            return UNKNOWN;
        }
        if (!isFromTo(tolerance, 0, MAX_TOLERANCE)) {
            return BAD_VALUE;
        }
        Question eased = state.questions[question];
        if (eased.stopped) {
            return NOT_POSSIBLE;
        }
        int previous = eased.tolerance;
        if (previous == tolerance) {
            return NONE;
        }
        history.record(state);
        eased.tolerance = tolerance;
        state.settle();
        return previous;
    }

    public int stop(int question) {
        if (!state.hasQuestion(question)) {
            return UNKNOWN;
        }
        Question stopping = state.questions[question];
        if (stopping.stopped || state.rows(stopping.layers) == 0) {
            return NOT_POSSIBLE;
        }
        history.record(state);
        stopping.finish(state.answer(stopping, GUESSES));
        state.settle();
        return stopping.guess;
    }

    public int drop(int question) {
        if (!state.hasQuestion(question)) {
            return UNKNOWN;
        }
        history.record(state);
        state.removeQuestion(question);
        state.settle();
        return state.questionCount;
    }

    // ---- reading

    public int setPlan(int plan) {
        if (!isFromTo(plan, BY_TURN, BY_WEIGHT)) {
            return BAD_VALUE;
        }
        int previous = state.plan;
        if (previous == plan) {
            return NONE;
        }
        history.record(state);
        state.plan = plan;
        state.settle();
        return previous;
    }

    public int read(int rows) {
        if (!isFromTo(rows, 1, ALL_ROWS)) {
            return BAD_VALUE;
        }
        if (state.nextBlock() == NONE) {
            return NONE;
        }
        history.record(state);
        int done = 0;
        for (int i = 0; i < rows && state.readByPlan(); i++) {
            done++;
        }
        return done;
    }

    public int readOn() {
        if (state.openQuestions() == 0) {
            return NOT_POSSIBLE;
        }
        if (state.nextBlock() == NONE) {
            return NONE;
        }
        history.record(state);
        return state.readWhileOpen();
    }

    public int readFrom(int block) {
        if (!state.hasBlock(block)) {
            return UNKNOWN;
        }
        Block source = state.blocks[block];
        if (source.unread() == 0) {
            return NONE;
        }
        history.record(state);
        int value = source.readRow();
        state.settle();
        return value;
    }

    // ---- texts

    public int type(char character) {
        if (text.length >= MAX_TEXT) {
            return FULL;
        }
        text.append(character);
        return text.length;
    }

    public int clearText() {
        int previous = text.length;
        text.length = 0;
        return previous;
    }

    // ---- history

    public int undo() {
        if (history.size == 0) {
            return NONE;
        }
        history.takeLatest(state);
        return history.size;
    }

    public int keep() {
        snapshot.copyFrom(state);
        hasSnapshot = true;
        return state.readRows(ALL_LAYERS);
    }

    public int restore() {
        if (!hasSnapshot) {
            return NONE;
        }
        history.record(state);
        state.copyFrom(snapshot);
        state.settle();
        return state.readRows(ALL_LAYERS);
    }

    // ---- what is told

    public int block(int block, int what) {
        if (!state.hasBlock(block)) {
            return UNKNOWN;
        }
        Block told = state.blocks[block];
        switch (what) {
            case 0:
                return told.layer;
            case 1:
                return told.bottom;
            case 2:
                return told.top;
            case 3:
                return told.rows;
            case 4:
                return told.read;
            case 5:
                return state.weight(told);
            case 6:
                return told.readSum;
            default:
                return BAD_VALUE;
        }
    }

    public int value(int block, int row) {
        if (!state.hasRow(block, row)) {
            return UNKNOWN;
        }
        Block told = state.blocks[block];
        return row < told.read ? told.values[row] : NOT_POSSIBLE;
    }

    public int question(int question, int what) {
        if (!state.hasQuestion(question)) {
            return UNKNOWN;
        }
        Question told = state.questions[question];
        switch (what) {
            case 0:
                return told.kind;
            case 1:
                return told.layers;
            case 2:
                return told.limit;
            case 3:
                return told.tolerance;
            case 4:
                return told.stopped ? 1 : 0;
            case 5:
                return state.answer(told, BOTTOMS);
            case 6:
                return state.answer(told, TOPS);
            case 7:
                return state.answer(told, GUESSES);
            case 8:
                return told.stopped ? told.lower : NONE;
            case 9:
                return told.stopped ? told.upper : NONE;
            case 10:
                return told.stopped ? told.guess : NONE;
            case 11:
                return state.rows(told.layers);
            case 12:
                return state.readRows(told.layers);
            default:
                return BAD_VALUE;
        }
    }

    public int next(int what) {
        if (!isFromTo(what, 0, 1)) {
            return BAD_VALUE;
        }
        int number = state.nextBlock();
        if (!state.hasBlock(number)) {
            return NONE;
        }
        return what == 0 ? number : state.blocks[number].read;
    }

    public int stopsIn(int question) {
        if (!state.hasQuestion(question)) {
            return UNKNOWN;
        }
        if (state.questions[question].stopped) {
            return NOT_POSSIBLE;
        }
        trial.copyFrom(state);
        Question awaited = trial.questions[question];
        for (int done = 1; done <= ALL_ROWS && trial.readByPlan(); done++) {
            if (awaited.stopped) {
                return done;
            }
        }
        return NONE;
    }

    public int best(int what) {
        if (!isFromTo(what, 0, 1)) {
            return BAD_VALUE;
        }
        if (state.openQuestions() == 0) {
            return NOT_POSSIBLE;
        }
        int bestPlan = NONE;
        int fewest = ALL_ROWS + 1;
        for (int plan = BY_TURN; plan <= BY_WEIGHT; plan++) {
            trial.copyFrom(state);
            trial.plan = plan;
            int needed = trial.readWhileOpen();
            if (trial.openQuestions() == 0 && needed < fewest) {
                bestPlan = plan;
                fewest = needed;
            }
        }
        if (bestPlan == NONE) {
            return NONE;
        }
        return what == 0 ? bestPlan : fewest;
    }

    public int count(int what) {
        switch (what) {
            case 0:
                return state.blockCount;
            case 1:
                return state.questionCount;
            case 2:
                return state.openQuestions();
            case 3:
                return state.plan;
            case 4:
                return state.rows(ALL_LAYERS);
            case 5:
                return state.readRows(ALL_LAYERS);
            case 6:
                return state.turn;
            case 7:
                return history.size;
            case 8:
                return text.length;
            default:
                return BAD_VALUE;
        }
    }

    private static boolean isFromTo(int number, int first, int last) {
        return number >= first && number <= last;
    }

    private static boolean covers(int layers, int layer) {
        return ((layers >> layer) & 1) != 0;
    }

    /** A block of rows; what its read rows come to is kept along with them. */
    private static final class Block {
        final int[] values = new int[MAX_ROWS];
        int layer;
        int bottom;
        int top;
        int rows;
        int read;
        int readSum;
        int readLeast;
        int readGreatest;

        void copyFrom(Block other) {
            System.arraycopy(other.values, 0, values, 0, MAX_ROWS);
            layer = other.layer;
            bottom = other.bottom;
            top = other.top;
            rows = other.rows;
            read = other.read;
            readSum = other.readSum;
            readLeast = other.readLeast;
            readGreatest = other.readGreatest;
        }

        void copyFromText(BlockText source) {
            System.arraycopy(source.values, 0, values, 0, MAX_ROWS);
            layer = source.layer;
            bottom = source.bottom;
            top = source.top;
            rows = source.rows;
            readFirst(0);
        }

        boolean allows(int number) {
            return isFromTo(number, bottom, top);
        }

        int unread() {
            return rows - read;
        }

        void append(int number) {
            if (rows < MAX_ROWS) {
                values[rows] = number;
                rows++;
            }
        }

        void put(int row, int number) {
            if (isFromTo(row, 0, rows - 1)) {
                values[row] = number;
                readFirst(read);
            }
        }

        int readRow() {
            if (read >= rows) {
                return NONE;
            }
            int number = values[read];
            read++;
            readSum += number;
            readLeast = Math.min(readLeast, number);
            readGreatest = Math.max(readGreatest, number);
            return number;
        }

        /** Reads anew the first rows, so many as are told, and no others. */
        void readFirst(int howMany) {
            read = 0;
            readSum = 0;
            readLeast = MAX_NUMBER;
            readGreatest = 0;
            for (int i = 0; i < howMany; i++) {
                readRow();
            }
        }

        int leastValue() {
            int least = MAX_NUMBER;
            for (int i = 0; i < rows; i++) {
                least = Math.min(least, values[i]);
            }
            return least;
        }

        int greatestValue() {
            int greatest = 0;
            for (int i = 0; i < rows; i++) {
                greatest = Math.max(greatest, values[i]);
            }
            return greatest;
        }

        int readFromLimit(int limit) {
            int found = 0;
            for (int i = 0; i < read; i++) {
                if (values[i] >= limit) {
                    found++;
                }
            }
            return found;
        }

        /** What the block gives to an answer, with one value for all rows not read. */
        int share(int kind, int limit, int assumed) {
            int unread = unread();
            switch (kind) {
                case HOW_MANY:
                    return readFromLimit(limit) + (assumed >= limit ? unread : 0);
                case LEAST:
                    return unread > 0 ? Math.min(readLeast, assumed) : readLeast;
                case GREATEST:
                    return unread > 0 ? Math.max(readGreatest, assumed) : readGreatest;
                default:
                    return readSum + unread * assumed;
            }
        }
    }

    /**
     * A question. Its lower and its upper bound are those by now while it is
     * open, and those that were kept once it is stopped.
     */
    private static final class Question {
        int kind;
        int layers;
        int limit;
        int tolerance;
        boolean stopped;
        int lower;
        int upper;
        int guess;

        void copyFrom(Question other) {
            kind = other.kind;
            layers = other.layers;
            limit = other.limit;
            tolerance = other.tolerance;
            stopped = other.stopped;
            lower = other.lower;
            upper = other.upper;
            guess = other.guess;
        }

        /** Stops it; its bounds, which are those by now, stay as they are from then. */
        void finish(int finalAnswer) {
            guess = finalAnswer;
            stopped = true;
        }

        /** What the question adds to the weight of a block of its layers. */
        int urgency(Block source) {
            switch (kind) {
                case HOW_MANY:
                    return source.bottom < limit && source.top >= limit ? PRESSING : 0;
                case LEAST:
                    return source.bottom < upper ? PRESSING : 0;
                case GREATEST:
                    return source.top > lower ? PRESSING : 0;
                default:
                    return source.top - source.bottom;
            }
        }
    }

    /** All that undo and the snapshot bring back. */
    private static final class State {
        final Block[] blocks = new Block[MAX_BLOCKS];
        final Question[] questions = new Question[MAX_QUESTIONS];
        int blockCount;
        int questionCount;
        int plan;
        int turn;

        State() {
            for (int i = 0; i < MAX_BLOCKS; i++) {
                blocks[i] = new Block();
            }
            for (int i = 0; i < MAX_QUESTIONS; i++) {
                questions[i] = new Question();
            }
        }

        void copyFrom(State other) {
            for (int i = 0; i < other.blockCount; i++) {
                blocks[i].copyFrom(other.blocks[i]);
            }
            for (int i = 0; i < other.questionCount; i++) {
                questions[i].copyFrom(other.questions[i]);
            }
            blockCount = other.blockCount;
            questionCount = other.questionCount;
            plan = other.plan;
            turn = other.turn;
        }

        boolean hasBlock(int number) {
            return isFromTo(number, 0, blockCount - 1);
        }

        boolean hasRow(int number, int row) {
            return hasBlock(number) && isFromTo(row, 0, blocks[number].rows - 1);
        }

        boolean hasQuestion(int number) {
            return isFromTo(number, 0, questionCount - 1);
        }

        int appendBlock(BlockText source) {
            if (blockCount >= MAX_BLOCKS) {
                return FULL;
            }
            blocks[blockCount].copyFromText(source);
            blockCount++;
            return blockCount - 1;
        }

        int appendQuestion(int kind, int layers, int limit, int tolerance) {
            if (questionCount >= MAX_QUESTIONS) {
                return FULL;
            }
            Question added = questions[questionCount];
            added.kind = kind;
            added.layers = layers;
            added.limit = limit;
            added.tolerance = tolerance;
            added.stopped = false;
            questionCount++;
            return questionCount - 1;
        }

        void removeQuestion(int number) {
            if (!hasQuestion(number)) {
                return;
            }
            for (int i = number; i < questionCount - 1; i++) {
                questions[i].copyFrom(questions[i + 1]);
            }
            questionCount--;
        }

        void forgetRows() {
            for (int i = 0; i < blockCount; i++) {
                blocks[i].readFirst(0);
            }
        }

        int rows(int layers) {
            int rows = 0;
            for (int i = 0; i < blockCount; i++) {
                if (covers(layers, blocks[i].layer)) {
                    rows += blocks[i].rows;
                }
            }
            return rows;
        }

        int readRows(int layers) {
            int rows = 0;
            for (int i = 0; i < blockCount; i++) {
                if (covers(layers, blocks[i].layer)) {
                    rows += blocks[i].read;
                }
            }
            return rows;
        }

        int openQuestions() {
            int open = 0;
            for (int i = 0; i < questionCount; i++) {
                if (!questions[i].stopped) {
                    open++;
                }
            }
            return open;
        }

        /**
         * Brings the bounds of the open questions up to date and stops those
         * that are sure enough. It comes behind whatever may move a bound.
         */
        void settle() {
            for (int i = 0; i < questionCount; i++) {
                Question asked = questions[i];
                if (asked.stopped || rows(asked.layers) == 0) {
                    continue;
                }
                asked.lower = answer(asked, BOTTOMS);
                asked.upper = answer(asked, TOPS);
                if (asked.upper - asked.lower <= asked.tolerance) {
                    asked.finish(answer(asked, GUESSES));
                }
            }
        }

        /** The answer with such values for the rows not read; NONE without rows. */
        int answer(Question asked, int how) {
            int rows = 0;
            int sum = 0;
            int least = MAX_NUMBER;
            int greatest = 0;
            for (int i = 0; i < blockCount; i++) {
                Block source = blocks[i];
                if (covers(asked.layers, source.layer)) {
                    int share = source.share(asked.kind, asked.limit, assumed(source, how));
                    rows += source.rows;
                    sum += share;
                    least = Math.min(least, share);
                    greatest = Math.max(greatest, share);
                }
            }
            if (rows == 0) {
                return NONE;
            }
            switch (asked.kind) {
                case LEAST:
                    return least;
                case GREATEST:
                    return greatest;
                case MEAN:
                    return 100 * sum / rows;
                default:
                    return sum;
            }
        }

        /** What is taken for the value of each row of the block that was not read. */
        int assumed(Block source, int how) {
            if (how == BOTTOMS) {
                return source.bottom;
            }
            if (how == TOPS) {
                return source.top;
            }
            int read = 0;
            int sum = 0;
            for (int i = 0; i < blockCount; i++) {
                if (blocks[i].layer == source.layer) {
                    read += blocks[i].read;
                    sum += blocks[i].readSum;
                }
            }
            if (read == 0) {
                return (source.bottom + source.top) / 2;
            }
            return Math.max(source.bottom, Math.min(source.top, sum / read));
        }

        int weight(Block source) {
            int weight = 0;
            for (int i = 0; i < questionCount; i++) {
                Question asked = questions[i];
                if (!asked.stopped && covers(asked.layers, source.layer)) {
                    weight += asked.urgency(source);
                }
            }
            return weight;
        }

        /** The block that the plan reads next; NONE if all rows were read. */
        int nextBlock() {
            return plan == BY_TURN ? blockInTurn() : mostPressingBlock();
        }

        int blockInTurn() {
            for (int i = 0; i < blockCount; i++) {
                int number = (turn + i) % blockCount;
                if (blocks[number].unread() > 0) {
                    return number;
                }
            }
            return NONE;
        }

        int mostPressingBlock() {
            int found = NONE;
            int most = -1;
            for (int i = 0; i < blockCount; i++) {
                Block source = blocks[i];
                if (source.unread() > 0) {
                    int rank = plan == BY_SPREAD
                            ? source.unread() * (source.top - source.bottom)
                            : weight(source);
                    if (rank > most) {
                        found = i;
                        most = rank;
                    }
                }
            }
            return found;
        }

        /** Reads one row by the plan; false if none is left. */
        boolean readByPlan() {
            int number = nextBlock();
            if (!hasBlock(number)) {
                return false;
            }
            blocks[number].readRow();
            if (plan == BY_TURN) {
                turn = number + 1 < blockCount ? number + 1 : 0;
            }
            settle();
            return true;
        }

        int readWhileOpen() {
            int done = 0;
            for (int i = 0; i < ALL_ROWS; i++) {
                if (openQuestions() == 0 || !readByPlan()) {
                    break;
                }
                done++;
            }
            return done;
        }
    }

    /** The latest states, in a ring: the oldest one gives way to one more. */
    private static final class History {
        final State[] states = new State[MAX_STATES];
        int oldest;
        int size;

        History() {
            for (int i = 0; i < MAX_STATES; i++) {
                states[i] = new State();
            }
        }

        void record(State current) {
            states[(oldest + size) % MAX_STATES].copyFrom(current);
            if (size < MAX_STATES) {
                size++;
            } else {
                oldest = (oldest + 1) % MAX_STATES;
            }
        }

        void takeLatest(State current) {
            if (size > 0) {
                size--;
                current.copyFrom(states[(oldest + size) % MAX_STATES]);
            }
        }
    }

    /** The text that is typed, and the block that was last parsed from it. */
    private static final class BlockText {
        final char[] characters = new char[MAX_TEXT];
        final int[] values = new int[MAX_ROWS];
        int length;
        int at;
        int layer;
        int bottom;
        int top;
        int rows;

        void append(char character) {
            if (length < MAX_TEXT) {
                characters[length] = character;
                length++;
            }
        }

        /** Parses the text; if that is false, its fault is where it stands at. */
        boolean parse() {
            at = 0;
            layer = takeDigit('0', '3');
            if (layer < 0 || !takeSign(':')) {
                return false;
            }
            bottom = takeNumber();
            if (bottom < 0 || !takeSign('-')) {
                return false;
            }
            top = takeNumber();
            if (top < 0 || !takeSign('=')) {
                return false;
            }
            return takeValues();
        }

        boolean takeValues() {
            rows = 0;
            for (int i = 0; i < MAX_ROWS; i++) {
                if (i > 0 && !takeSign(',')) {
                    return false;
                }
                int number = takeNumber();
                if (number < 0) {
                    return false;
                }
                values[i] = number;
                rows++;
                if (at >= length) {
                    return true;
                }
            }
            return false;
        }

        boolean takeSign(char sign) {
            if (at >= length || characters[at] != sign) {
                return false;
            }
            at++;
            return true;
        }

        /** Takes a digit from the first to the last one; -1 if there is none. */
        int takeDigit(char first, char last) {
            if (at >= length || characters[at] < first || characters[at] > last) {
                return -1;
            }
            int digit = characters[at] - '0';
            at++;
            return digit;
        }

        /** Takes a number; -1 if there is none. Behind a zero in front it ends. */
        int takeNumber() {
            int number = takeDigit('0', '9');
            for (int i = 1; i < MAX_DIGITS && number > 0; i++) {
                int digit = takeDigit('0', '9');
                if (digit < 0) {
                    return number;
                }
                number = 10 * number + digit;
            }
            return number;
        }

        boolean isInRange() {
            if (bottom > top) {
                return false;
            }
            for (int i = 0; i < rows; i++) {
                if (!isFromTo(values[i], bottom, top)) {
                    return false;
                }
            }
            return true;
        }
    }
}
