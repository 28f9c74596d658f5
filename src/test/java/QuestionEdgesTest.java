/** The boundary cases of the promises 7 to 10: questions, and when they stop. */
public final class QuestionEdgesTest {
    private static final int UNKNOWN = SureAnswers.UNKNOWN, BAD = SureAnswers.BAD_VALUE, FULL = SureAnswers.FULL,
            NOT_POSSIBLE = SureAnswers.NOT_POSSIBLE, NONE = SureAnswers.NONE;
    private static final int MIN = Integer.MIN_VALUE, MAX = Integer.MAX_VALUE;
    private static final String BLOCK = "add 0:0-9=3,4";
    private static final String SIX = BLOCK + "; 6 times ask(0, 1, 0, 0)";
    private static final Edges E = new Edges("QuestionEdgesTest");

    private static void kinds() {
        for (int kind = 0; kind <= 4; kind++) {
            E.act("7: the kind " + kind, BLOCK, "ask(" + kind + ", 1, 0, 0)", 0);
            E.due("7: the kind " + kind + " is told", BLOCK + "; ask(" + kind + ", 1, 0, 0)", "question(0, 0)", kind);
        }
        E.stays("7: a kind below the first", BLOCK, "ask(-1, 1, 0, 0)", BAD);
        E.stays("7: a kind behind the last", BLOCK, "ask(5, 1, 0, 0)", BAD);
        for (int far : new int[] {MIN, MAX, 256, 65536}) {
            E.stays("7: a kind far from any", BLOCK, "ask(" + far + ", 1, 0, 0)", BAD);
        }
    }

    private static void layers() {
        E.act("7: the first layer alone", BLOCK, "ask(0, 1, 0, 0)", 0);
        E.act("7: the last layer alone", BLOCK, "ask(0, 8, 0, 0)", 0);
        E.act("7: all layers", BLOCK, "ask(0, 15, 0, 0)", 0);
        E.stays("7: no layer", BLOCK, "ask(0, 0, 0, 0)", BAD);
        E.stays("7: one more than all layers", BLOCK, "ask(0, 16, 0, 0)", BAD);
        E.stays("7: one more, with the first", BLOCK, "ask(0, 17, 0, 0)", BAD);
        E.stays("7: below no layer", BLOCK, "ask(0, -1, 0, 0)", BAD);
        for (int far : new int[] {MIN, MAX, 256 + 1, 65536 + 1}) {
            E.stays("7: far from any set of layers", BLOCK, "ask(0, " + far + ", 0, 0)", BAD);
        }
        String four = "add 0:1-2=1; add 1:1-2=1,1; add 2:1-2=1,1,1; add 3:1-2=1,1,1,1";
        for (int set = 1; set <= 15; set++) {
            int rows = (set & 1) + (set >> 1 & 1) * 2 + (set >> 2 & 1) * 3 + (set >> 3 & 1) * 4;
            E.due("7: the rows of the layers " + set, four + "; ask(0, " + set + ", 0, 0)", "question(0, 11)", rows);
            E.due("7: the layers " + set + " are told", four + "; ask(0, " + set + ", 0, 0)", "question(0, 1)", set);
        }
    }

    private static void limits() {
        E.act("7: the least limit of the kind 1", BLOCK, "ask(1, 1, 0, 0)", 0);
        E.act("7: the greatest limit of the kind 1", BLOCK, "ask(1, 1, 999, 0)", 0);
        E.stays("7: a limit of -1", BLOCK, "ask(1, 1, -1, 0)", BAD);
        E.stays("7: a limit of 1000", BLOCK, "ask(1, 1, 1000, 0)", BAD);
        for (int kind : new int[] {0, 2, 3, 4}) {
            E.stays("7: a limit of 1 for the kind " + kind, BLOCK, "ask(" + kind + ", 1, 1, 0)", BAD);
            E.stays("7: a limit of 999 for the kind " + kind, BLOCK, "ask(" + kind + ", 1, 999, 0)", BAD);
            E.stays("7: a limit of -1 for the kind " + kind, BLOCK, "ask(" + kind + ", 1, -1, 0)", BAD);
        }
        for (int far : new int[] {MIN, MAX, 65536, 65536 + 5}) {
            E.stays("7: a limit far from any", BLOCK, "ask(1, 1, " + far + ", 0)", BAD);
            E.stays("7: a limit far from any, for the kind 0", BLOCK, "ask(0, 1, " + far + ", 0)", BAD);
        }
        E.due("7: the limit 999 is told", BLOCK + "; ask(1, 1, 999, 0)", "question(0, 2)", 999);
    }

    private static void tolerances() {
        E.act("7: the least tolerance", BLOCK, "ask(0, 1, 0, 0)", 0);
        E.act("7: the greatest tolerance", BLOCK, "ask(0, 1, 0, 99999)", 0);
        E.stays("7: a tolerance of -1", BLOCK, "ask(0, 1, 0, -1)", BAD);
        E.stays("7: a tolerance of 100000", BLOCK, "ask(0, 1, 0, 100000)", BAD);
        for (int far : new int[] {MIN, MAX}) {
            E.stays("7: a tolerance far from any", BLOCK, "ask(0, 1, 0, " + far + ")", BAD);
        }
        E.due("7: the tolerance 99999 is told", BLOCK + "; ask(0, 1, 0, 99999)", "question(0, 3)", 99999);
    }

    private static void questionsFromNoneToFull() {
        E.act("7: nothing there yet, the first question", BLOCK, "ask(0, 1, 0, 0)", 0);
        E.act("7: the first question, without blocks", "", "ask(0, 1, 0, 0)", 0);
        E.act("7: the sixth question is taken", BLOCK + "; 5 times ask(0, 1, 0, 0)", "ask(4, 1, 0, 0)", 5);
        E.stays("7: the seventh is not", SIX, "ask(4, 1, 0, 0)", FULL);
        E.stays("7: those that are stopped count, too", BLOCK + "; 6 times ask(0, 1, 0, 99)", "ask(0, 1, 0, 0)", FULL);
        E.act("7: there is room again behind drop()", SIX + "; drop(0)", "ask(4, 1, 0, 0)", 5);
        E.stays("7: for one", SIX + "; drop(0); ask(4, 1, 0, 0)", "ask(4, 1, 0, 0)", FULL);
        E.act("7: there is room again behind undo()", SIX + "; undo()", "ask(4, 1, 0, 0)", 5);
        E.stays("7: BAD_VALUE (kind) comes ahead of FULL", SIX, "ask(5, 1, 0, 0)", BAD);
        E.stays("7: BAD_VALUE (layers) comes ahead of FULL", SIX, "ask(0, 0, 0, 0)", BAD);
        E.stays("7: BAD_VALUE (limit) comes ahead of FULL", SIX, "ask(0, 1, 1, 0)", BAD);
        E.stays("7: BAD_VALUE (limit of the kind 1) comes ahead of FULL", SIX, "ask(1, 1, 1000, 0)", BAD);
        E.stays("7: BAD_VALUE (tolerance) comes ahead of FULL", SIX, "ask(0, 1, 0, 100000)", BAD);
    }

    /** Asks with the width as the tolerance, and with one less. */
    private static void widthWhenAsked(String steps, int kind, int limit, int width) {
        String ask = "ask(" + kind + ", 1, " + limit + ", ";
        E.due("7: its width is its tolerance when it is asked, kind " + kind, steps + "; " + ask + width + ")",
                "question(0, 4)", 1);
        E.due("7: its width is one above its tolerance, kind " + kind, steps + "; " + ask + (width - 1) + ")",
                "question(0, 4)", 0);
        E.due("7: its width is one below its tolerance, kind " + kind, steps + "; " + ask + (width + 1) + ")",
                "question(0, 4)", 1);
    }

    private static void stopsWhenAsked() {
        String steps = "add 0:10-20=12,15,13";
        widthWhenAsked(steps, 0, 0, 30);
        widthWhenAsked(steps, 1, 15, 3);
        widthWhenAsked(steps, 2, 0, 10);
        widthWhenAsked(steps, 3, 0, 10);
        widthWhenAsked(steps, 4, 0, 1000);
        String sure = steps + "; read(3)";
        for (int kind = 0; kind <= 4; kind++) {
            E.due("7: all was read, so it is sure with the tolerance 0, kind " + kind,
                    sure + "; ask(" + kind + ", 1, 0, 0)", "question(0, 4)", 1);
        }
        E.due("7: nothing was read, but the bottoms are the tops", "add 0:7-7=7; ask(0, 1, 0, 0)", "question(0, 10)", 7);
        E.due("7: a single row of one more is not sure", "add 0:7-8=7; ask(0, 1, 0, 0)", "question(0, 4)", 0);
        // Six blocks of 16 rows from 0 to 999 and one of 15 from 0 to 273 are 99999 wide.
        String wide = "add 0:0-999=0,0,0,0,0,0,0,0,0,0,0,0,0,0,0,0; 5 times addBlock();"
                + " add 0:0-273=0,0,0,0,0,0,0,0,0,0,0,0,0,0,0";
        E.due("7: the greatest tolerance, and as wide", wide + "; ask(0, 1, 0, 99999)", "question(0, 9)", 99999);
        E.due("7: the greatest tolerance, and one wider", wide + "; add 0:0-1=0; ask(0, 1, 0, 99999)",
                "question(0, 4)", 0);
        E.due("7: and its upper bound", wide + "; add 0:0-1=0; ask(0, 1, 0, 99999)", "question(0, 6)", 100000);
    }

    private static void withoutRows() {
        E.due("7: a question without rows does not stop", "ask(0, 1, 0, 99999)", "question(0, 4)", 0);
        E.due("7: not with blocks of other layers", "add 0:0-9=3; ask(0, 14, 0, 99999)", "question(0, 4)", 0);
        E.due("7: not by reading those", "add 0:0-9=3; ask(0, 14, 0, 99999); read(1)", "question(0, 4)", 0);
        E.due("7: it is counted as open", "ask(0, 1, 0, 99999)", "count(2)", 1);
        E.due("2: it stops as soon as it has rows, if they are sure enough",
                "ask(0, 1, 0, 9); add 0:0-9=3", "question(0, 10)", 4);
        E.due("2: it does not if they are not", "ask(0, 1, 0, 8); add 0:0-9=3", "question(0, 4)", 0);
        E.due("2: it does not with rows of another layer", "ask(0, 2, 0, 9); add 0:0-9=3", "question(0, 4)", 0);
        for (int kind = 0; kind <= 4; kind++) {
            String asked = "ask(" + kind + ", 1, 0, 0)";
            for (int what = 5; what <= 10; what++) {
                E.stays("22: NONE without rows, kind " + kind, asked, "question(0, " + what + ")", NONE);
            }
        }
    }

    /** An act behind which the width is this: with it as the tolerance it stops, with one less it does not. */
    private static void stopsBehind(String message, String steps, String ask, String act, int width) {
        String enough = steps + "; " + ask + width + ")";
        String less = steps + "; " + ask + (width - 1) + ")";
        E.due(message + ", ahead of it", enough, "question(0, 4)", 0);
        E.due(message + ", the width is the tolerance", enough + "; " + act, "question(0, 4)", 1);
        E.due(message + ", the width is one more", less + "; " + act, "question(0, 4)", 0);
    }

    private static void stopsBehindEachRow() {
        String steps = "add 0:0-9=3,4,5";
        stopsBehind("12: behind a row that is read by the plan", steps, "ask(0, 1, 0, ", "read(1)", 18);
        stopsBehind("14: behind a row that is read from a block", steps, "ask(0, 1, 0, ", "readFrom(0)", 18);
        stopsBehind("12: behind the second of two rows", steps, "ask(0, 1, 0, ", "read(2)", 9);
        stopsBehind("12: the mean", steps, "ask(4, 1, 0, ", "read(1)", 600);
        stopsBehind("12: how many", steps, "ask(1, 1, 4, ", "read(1)", 2);
        stopsBehind("12: the least", steps, "ask(2, 1, 0, ", "read(1)", 3);
        stopsBehind("12: the greatest", steps, "ask(3, 1, 0, ", "read(1)", 6);
        E.due("12: it stops at the first row that makes it sure enough, not behind the last",
                steps + "; ask(0, 1, 0, 18); read(3)", "question(0, 9)", 21);
        E.due("12: its lower bound of then", steps + "; ask(0, 1, 0, 18); read(3)", "question(0, 8)", 3);
        E.due("12: its guess of then", steps + "; ask(0, 1, 0, 18); read(3)", "question(0, 10)", 9);
        E.due("13: the same with readOn()", steps + "; ask(0, 1, 0, 18); ask(0, 1, 0, 0); readOn()",
                "question(0, 9)", 21);
        E.due("13: another one stops later", steps + "; ask(0, 1, 0, 18); ask(0, 1, 0, 9); readOn()",
                "question(1, 9)", 16);
        E.due("12: two stop at the same row", steps + "; 2 times ask(0, 1, 0, 18); read(1)", "count(2)", 0);
        E.due("12: a question behind one that is stopped", BLOCK + "; ask(0, 1, 0, 99); ask(0, 1, 0, 9); read(1)",
                "question(1, 4)", 1);
        E.due("12: a question behind one without rows", BLOCK + "; ask(0, 8, 0, 99); ask(0, 1, 0, 9); read(1)",
                "question(1, 4)", 1);
    }

    private static void stopsBehindEachAct() {
        stopsBehind("2: behind addBlock()", "add 0:0-9=5", "ask(2, 1, 0, ", "add 0:4-4=4", 4);
        stopsBehind("2: behind addBlock(), the greatest", "add 0:0-9=5", "ask(3, 1, 0, ", "add 0:7-7=7", 2);
        stopsBehind("2: behind addBlock(), the mean", "add 0:0-9=5", "ask(4, 1, 0, ", "add 0:4-4=4", 450);
        stopsBehind("3: behind addRow()", "add 0:0-100=50; add 0:0-0=0", "ask(4, 1, 0, ", "addRow(1, 0)", 3333);
        stopsBehind("4: behind change(), the least", "add 0:0-9=5,5; read(1)", "ask(2, 1, 0, ", "change(0, 0, 3)", 3);
        stopsBehind("4: behind change(), the greatest", "add 0:0-9=5,5; read(1)", "ask(3, 1, 0, ", "change(0, 0, 7)", 2);
        stopsBehind("5: behind narrow()", BLOCK, "ask(0, 1, 0, ", "narrow(0)", 2);
        E.due("4: behind change() of a row that was not read nothing is surer",
                "add 0:0-9=5,5; read(1); ask(2, 1, 0, 3); change(0, 1, 0)", "question(0, 4)", 0);
        E.due("8: behind setTolerance() to the width", BLOCK + "; ask(0, 1, 0, 0); setTolerance(0, 18)", "question(0, 4)", 1);
        E.due("8: behind setTolerance() to one less", BLOCK + "; ask(0, 1, 0, 0); setTolerance(0, 17)", "question(0, 4)", 0);
        E.due("5: its bounds of then are the narrowed ones", BLOCK + "; ask(0, 1, 0, 2); narrow(0)", "question(0, 9)", 8);
        E.due("5: and its guess", BLOCK + "; ask(0, 1, 0, 2); narrow(0)", "question(0, 10)", 6);
    }

    /** What was kept as it stopped, from 24 to 33 with the guess 28, stays behind the act. */
    private static void staysBehind(String message, String act) {
        String steps = "add 0:10-19=14,12; ask(0, 1, 0, 9); ask(0, 2, 0, 0); readFrom(0); " + act;
        E.due(message + ", it is stopped", steps, "question(0, 4)", 1);
        E.due(message + ", its lower bound", steps, "question(0, 8)", 24);
        E.due(message + ", its upper bound", steps, "question(0, 9)", 33);
        E.due(message + ", its final answer", steps, "question(0, 10)", 28);
    }

    private static void finalAnswersStay() {
        staysBehind("12: what was kept stays behind read()", "read(1)");
        staysBehind("13: what was kept stays behind readOn()", "readOn()");
        staysBehind("14: what was kept stays behind readFrom()", "readFrom(0)");
        staysBehind("4: what was kept stays when a row changes that was read", "change(0, 0, 19)");
        staysBehind("4: what was kept stays when a row changes that was not", "change(0, 1, 19)");
        staysBehind("3: what was kept stays when there is a row more", "addRow(0, 19)");
        staysBehind("2: what was kept stays when there is a block more", "add 0:0-999=5");
        staysBehind("5: what was kept stays when a block is narrowed", "narrow(0)");
        staysBehind("6: what was kept stays when all is forgotten", "forget()");
        staysBehind("7: what was kept stays when one more is asked", "ask(0, 1, 0, 0)");
        staysBehind("9: what was kept stays when another one stops", "add 1:0-9=5; stop(1)");
        staysBehind("10: what was kept stays when another one goes", "drop(1)");
        staysBehind("11: what was kept stays with another plan", "setPlan(2)");
        staysBehind("19: what was kept stays in a snapshot", "keep(); drop(0); restore()");
        String steps = "add 0:10-19=14,12; ask(0, 1, 0, 9); readFrom(0)";
        E.due("22: its bounds by now do not stay, lower", steps + "; read(1)", "question(0, 5)", 26);
        E.due("22: its bounds by now do not stay, upper", steps + "; addRow(0, 19)", "question(0, 6)", 52);
        E.due("22: its guess by now does not stay", steps + "; change(0, 0, 19)", "question(0, 7)", 38);
        E.due("6: it does not open again, though it is wider than its tolerance", steps + "; forget()", "count(2)", 0);
    }

    private static void settingTolerances() {
        String open = BLOCK + "; ask(0, 1, 0, 5)";
        E.act("8: to the least one", open, "setTolerance(0, 0)", 5);
        E.act("8: to the greatest one", open, "setTolerance(0, 99999)", 5);
        E.act("8: the previous one was 0", BLOCK + "; ask(0, 1, 0, 0)", "setTolerance(0, 1)", 0);
        E.act("8: the previous one was 99999, without rows", "ask(0, 1, 0, 99999)", "setTolerance(0, 0)", 99999);
        E.act("8: by one more", open, "setTolerance(0, 6)", 5);
        E.act("8: by one less", open, "setTolerance(0, 4)", 5);
        E.stays("8: -1", open, "setTolerance(0, -1)", BAD);
        E.stays("8: 100000", open, "setTolerance(0, 100000)", BAD);
        E.stays("8: far below", open, "setTolerance(0, " + MIN + ")", BAD);
        E.stays("8: far above", open, "setTolerance(0, " + MAX + ")", BAD);
        E.stays("8: so already", open, "setTolerance(0, 5)", NONE);
        E.stays("8: so already, 0", BLOCK + "; ask(0, 1, 0, 0)", "setTolerance(0, 0)", NONE);
        E.stays("8: so already, 99999", "ask(0, 1, 0, 99999)", "setTolerance(0, 99999)", NONE);
        E.stays("8: so since it was set", open + "; setTolerance(0, 6)", "setTolerance(0, 6)", NONE);
        E.stays("8: stopped by its tolerance", BLOCK + "; ask(0, 1, 0, 99)", "setTolerance(0, 5)", NOT_POSSIBLE);
        E.stays("8: stopped by a word", open + "; stop(0)", "setTolerance(0, 6)", NOT_POSSIBLE);
        E.act("8: the last of six", SIX, "setTolerance(5, 1)", 0);
    }

    private static void toleranceOrderOfErrors() {
        String open = BLOCK + "; ask(0, 1, 0, 5)";
        E.stays("8: nothing there yet", BLOCK, "setTolerance(0, 5)", UNKNOWN);
        E.stays("8: one behind the last", open, "setTolerance(1, 5)", UNKNOWN);
        E.stays("8: one ahead of the first", open, "setTolerance(-1, 5)", UNKNOWN);
        E.stays("8: one behind the last of six", SIX, "setTolerance(6, 1)", UNKNOWN);
        E.stays("8: one that was dropped", SIX + "; drop(0)", "setTolerance(5, 1)", UNKNOWN);
        for (int far : new int[] {MIN, MAX, 256, 65536}) {
            E.stays("8: far from any", open, "setTolerance(" + far + ", 6)", UNKNOWN);
        }
        E.stays("8: UNKNOWN comes ahead of BAD_VALUE", open, "setTolerance(1, -1)", UNKNOWN);
        E.stays("8: BAD_VALUE comes ahead of NOT_POSSIBLE, below", open + "; stop(0)", "setTolerance(0, -1)", BAD);
        E.stays("8: BAD_VALUE comes ahead of NOT_POSSIBLE, above", open + "; stop(0)", "setTolerance(0, 100000)", BAD);
        E.stays("8: NOT_POSSIBLE comes ahead of NONE", open + "; stop(0)", "setTolerance(0, 5)", NOT_POSSIBLE);
    }

    private static void stopping() {
        String open = BLOCK + "; ask(0, 1, 0, 0)";
        E.act("9: nothing was read, twice the guess of 4", open, "stop(0)", 8);
        E.act("9: one row was read", open + "; read(1)", "stop(0)", 6);
        E.act("9: a final answer of 0", "add 0:0-1=0; ask(0, 1, 0, 0)", "stop(0)", 0);
        E.act("9: the last of six", SIX, "stop(5)", 8);
        E.act("9: as wide as can be, the tolerance 0", "add 0:0-999=1; ask(4, 1, 0, 0)", "stop(0)", 49900);
        E.stays("9: stopped by a word already", open + "; stop(0)", "stop(0)", NOT_POSSIBLE);
        E.stays("9: stopped as it was asked", BLOCK + "; ask(0, 1, 0, 99)", "stop(0)", NOT_POSSIBLE);
        E.stays("9: stopped by reading", open + "; read(2)", "stop(0)", NOT_POSSIBLE);
        E.stays("9: no rows, without blocks", "ask(0, 1, 0, 0)", "stop(0)", NOT_POSSIBLE);
        E.stays("9: no rows, with a block of another layer", BLOCK + "; ask(0, 2, 0, 0)", "stop(0)", NOT_POSSIBLE);
        E.act("9: it has rows since a block was added", "ask(0, 1, 0, 0); " + BLOCK, "stop(0)", 8);
        E.stays("9: nothing there yet", BLOCK, "stop(0)", UNKNOWN);
        E.stays("9: one behind the last", open, "stop(1)", UNKNOWN);
        E.stays("9: one ahead of the first", open, "stop(-1)", UNKNOWN);
        E.stays("9: one behind the last of six", SIX, "stop(6)", UNKNOWN);
        E.stays("9: one behind the last, which is stopped", open + "; stop(0)", "stop(1)", UNKNOWN);
        for (int far : new int[] {MIN, MAX, 256, 65536}) {
            E.stays("9: far from any", open, "stop(" + far + ")", UNKNOWN);
        }
        String stopped = open + "; read(1); stop(0)";
        E.due("9: its lower bound of then is kept", stopped, "question(0, 8)", 3);
        E.due("9: its upper bound of then is kept", stopped, "question(0, 9)", 12);
        E.due("9: its final answer is the guess", stopped, "question(0, 10)", 6);
        E.due("9: it stays stopped", stopped + "; addRow(0, 1)", "question(0, 4)", 1);
        E.due("9: another one stays open", open + "; ask(0, 1, 0, 0); stop(0)", "question(1, 4)", 0);
    }

    private static void dropping() {
        String three = BLOCK + "; ask(0, 1, 0, 0); ask(2, 1, 0, 99); ask(4, 1, 0, 7)";
        E.act("10: the first of three", three, "drop(0)", 2);
        E.act("10: the one between", three, "drop(1)", 2);
        E.act("10: the last of three", three, "drop(2)", 2);
        E.act("10: the only one", BLOCK + "; ask(0, 1, 0, 0)", "drop(0)", 0);
        E.act("10: the first of six", SIX, "drop(0)", 5);
        E.act("10: the last of six", SIX, "drop(5)", 5);
        E.act("10: one that is stopped", BLOCK + "; ask(0, 1, 0, 99)", "drop(0)", 0);
        E.act("10: one without rows", "ask(0, 1, 0, 0)", "drop(0)", 0);
        E.stays("10: nothing there yet", BLOCK, "drop(0)", UNKNOWN);
        E.stays("10: nothing there any more", BLOCK + "; ask(0, 1, 0, 0); drop(0)", "drop(0)", UNKNOWN);
        E.stays("10: one behind the last", three, "drop(3)", UNKNOWN);
        E.stays("10: one ahead of the first", three, "drop(-1)", UNKNOWN);
        E.stays("10: one behind the last of six", SIX, "drop(6)", UNKNOWN);
        for (int far : new int[] {MIN, MAX, 256, 65536}) {
            E.stays("10: far from any", three, "drop(" + far + ")", UNKNOWN);
        }
        E.due("10: those ahead of it stay", three + "; drop(1)", "question(0, 0)", 0);
        E.due("10: those behind it come one earlier", three + "; drop(1)", "question(1, 0)", 4);
        E.due("10: with their limit", "ask(1, 1, 7, 0); ask(1, 1, 8, 0); drop(0)", "question(0, 2)", 8);
        E.due("10: with their layers", "ask(1, 1, 7, 0); ask(1, 6, 8, 0); drop(0)", "question(0, 1)", 6);
        E.due("10: with their tolerance", three + "; drop(1)", "question(1, 3)", 7);
        E.due("10: all of those behind it", three + "; drop(0)", "question(1, 0)", 4);
        E.due("10: stopped as it was", three + "; drop(0)", "question(0, 4)", 1);
        E.due("10: with the final answer that it had", three + "; drop(0)", "question(0, 10)", 4);
        E.due("10: the place behind the last is empty", three + "; drop(0)", "question(2, 0)", UNKNOWN);
        E.due("10: from six to none", SIX + "; 5 times drop(0)", "drop(0)", 0);
        E.due("10: from six to none, from behind", SIX + "; drop(5); drop(4); drop(3); drop(2); drop(1)", "drop(0)", 0);
        E.due("10: one that is asked then has nothing of it",
                BLOCK + "; ask(1, 1, 5, 99); drop(0); ask(0, 1, 0, 0)", "question(0, 10)", NONE);
        E.due("10: it is open", BLOCK + "; ask(1, 1, 5, 99); drop(0); ask(0, 1, 0, 0)", "question(0, 4)", 0);
    }

    public static void main(String[] args) {
        kinds();
        layers();
        limits();
        tolerances();
        questionsFromNoneToFull();
        stopsWhenAsked();
        withoutRows();
        stopsBehindEachRow();
        stopsBehindEachAct();
        finalAnswersStay();
        settingTolerances();
        toleranceOrderOfErrors();
        stopping();
        dropping();
        E.end();
    }
}
