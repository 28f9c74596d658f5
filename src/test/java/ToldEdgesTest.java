/** The boundary cases of the promises 20 to 26: what is told of blocks, values, questions and reading. */
public final class ToldEdgesTest {
    private static final int UNKNOWN = SureAnswers.UNKNOWN, BAD = SureAnswers.BAD_VALUE,
            NOT_POSSIBLE = SureAnswers.NOT_POSSIBLE, NONE = SureAnswers.NONE;
    private static final int MIN = Integer.MIN_VALUE, MAX = Integer.MAX_VALUE;
    private static final int[] FAR = {MIN, MAX, 256, 65536, -256};
    private static final int LOWER = 5, UPPER = 6, GUESS = 7;
    private static final String EIGHT = "add 0:5-9=6,7; 7 times addBlock()";
    private static final String ALL_128 = "add 0:0-9=0,1,2,3,4,5,6,7,8,9,0,1,2,3,4,5; 7 times addBlock()";
    private static final Edges E = new Edges("ToldEdgesTest");

    // ---- block

    private static void blocks() {
        String steps = "add 3:5-9=6,7,8; add 0:0-999=0,999; readFrom(0); readFrom(0); ask(0, 8, 0, 0)";
        int[] first = {3, 5, 9, 3, 2, 4, 13};
        int[] second = {0, 0, 999, 2, 0, 0, 0};
        for (int what = 0; what <= 6; what++) {
            E.stays("20: of the first block", steps, "block(0, " + what + ")", first[what]);
            E.stays("20: of the last block", steps, "block(1, " + what + ")", second[what]);
            E.stays("20: nothing there yet", "", "block(0, " + what + ")", UNKNOWN);
            E.stays("20: one behind the last block", steps, "block(2, " + what + ")", UNKNOWN);
            E.stays("20: one ahead of the first block", steps, "block(-1, " + what + ")", UNKNOWN);
        }
        E.stays("20: the last of eight", EIGHT, "block(7, 1)", 5);
        E.stays("20: one behind the last of eight", EIGHT, "block(8, 1)", UNKNOWN);
        E.stays("20: one ahead of the first number", steps, "block(0, -1)", BAD);
        E.stays("20: one behind the last number", steps, "block(0, 7)", BAD);
        for (int far : FAR) {
            E.stays("20: far from any number", steps, "block(0, " + far + ")", BAD);
            E.stays("20: far from any block", steps, "block(" + far + ", 0)", UNKNOWN);
            E.stays("20: UNKNOWN comes ahead of BAD_VALUE, far", steps, "block(" + far + ", " + far + ")", UNKNOWN);
        }
        E.stays("20: UNKNOWN comes ahead of BAD_VALUE, below", steps, "block(2, -1)", UNKNOWN);
        E.stays("20: UNKNOWN comes ahead of BAD_VALUE, above", steps, "block(-1, 7)", UNKNOWN);
        E.due("20: those that were read, none", ALL_128, "block(7, 4)", 0);
        E.due("20: those that were read, all", ALL_128 + "; read(128)", "block(7, 4)", 16);
        E.due("20: the sum, none was read", ALL_128, "block(7, 6)", 0);
        E.due("20: the sum, all was read", ALL_128 + "; read(128)", "block(7, 6)", 60);
        E.due("20: the greatest sum", "add 0:999-999=999; 15 times addRow(0, 999); read(16)", "block(0, 6)", 15984);
    }

    /** The weight of the first block, which the question keeps as it is open by the second one. */
    private static void weight(String message, String block, String other, String ask, int want) {
        String steps = "add " + block + "; add " + other + "; " + ask;
        E.due(message + ", the question is open", steps, "question(0, 4)", 0);
        E.stays(message, steps, "block(0, 5)", want);
    }

    private static void weights() {
        String other = "0:0-999=7";
        weight("20: the sum, the bottom is the top", "0:7-7=7", other, "ask(0, 1, 0, 0)", 0);
        weight("20: the sum, one wide", "0:7-8=7", other, "ask(0, 1, 0, 0)", 1);
        weight("20: the sum, as wide as can be", "0:0-999=7", other, "ask(0, 1, 0, 0)", 999);
        weight("20: the mean, as wide as can be", "0:0-999=7", other, "ask(4, 1, 0, 0)", 999);
        weight("20: the mean, one wide", "0:7-8=7", other, "ask(4, 1, 0, 0)", 1);
        weight("20: how many, the bottom is one below the limit", "0:6-9=7", other, "ask(1, 1, 7, 0)", 100);
        weight("20: how many, the bottom is the limit", "0:7-9=7", other, "ask(1, 1, 7, 0)", 0);
        weight("20: how many, the bottom is one above the limit", "0:8-9=8", other, "ask(1, 1, 7, 0)", 0);
        weight("20: how many, the top is the limit", "0:5-7=7", other, "ask(1, 1, 7, 0)", 100);
        weight("20: how many, the top is one below the limit", "0:5-6=6", other, "ask(1, 1, 7, 0)", 0);
        weight("20: how many, the limit is 1", "0:0-1=1", other, "ask(1, 1, 1, 0)", 100);
        weight("20: how many, the limit is 999", "0:0-999=1", other, "ask(1, 1, 999, 0)", 100);
        weight("20: how many, the limit is 999, the top is 998", "0:0-998=1", other, "ask(1, 1, 999, 0)", 0);
        weight("20: least, the bottom is one below the upper bound", "0:6-9=9", "0:0-7=7", "ask(2, 1, 0, 0)", 100);
        weight("20: least, the bottom is the upper bound", "0:7-9=9", "0:0-7=7", "ask(2, 1, 0, 0)", 0);
        weight("20: least, the bottom is one above the upper bound", "0:8-9=9", "0:0-7=7", "ask(2, 1, 0, 0)", 0);
        weight("20: greatest, the top is one above the lower bound", "0:0-8=1", "0:7-9=7", "ask(3, 1, 0, 0)", 100);
        weight("20: greatest, the top is the lower bound", "0:0-7=1", "0:7-9=7", "ask(3, 1, 0, 0)", 0);
        weight("20: greatest, the top is one below the lower bound", "0:0-6=1", "0:7-9=7", "ask(3, 1, 0, 0)", 0);
        for (int layer = 0; layer <= 3; layer++) {
            for (int set = 1; set <= 15; set++) {
                String steps = "add " + layer + ":0-9=5; ask(0, " + set + ", 0, 0)";
                E.due("20: the layer " + layer + " and the set " + set, steps, "block(0, 5)", (set >> layer & 1) * 9);
            }
        }
    }

    private static void weightsTogether() {
        E.stays("20: no question, no weight", "add 0:0-9=1", "block(0, 5)", 0);
        E.stays("20: a question of other layers", "add 0:0-9=1; ask(0, 14, 0, 0)", "block(0, 5)", 0);
        E.stays("20: two questions", "add 0:0-9=1; ask(0, 1, 0, 0); ask(4, 15, 0, 0)", "block(0, 5)", 18);
        E.stays("20: six questions, as wide as can be", "add 0:0-999=1; 6 times ask(0, 1, 0, 0)", "block(0, 5)", 5994);
        E.stays("20: all kinds", "add 0:0-9=1,2; ask(0, 1, 0, 0); ask(1, 1, 5, 0); ask(2, 1, 0, 0); ask(3, 1, 0, 0);"
                + " ask(4, 1, 0, 0)", "block(0, 5)", 318);
        E.stays("20: one that stopped by its tolerance", "add 0:0-9=1; ask(0, 1, 0, 9)", "block(0, 5)", 0);
        E.stays("20: one that was stopped by a word", "add 0:0-9=1; 2 times ask(0, 1, 0, 0); stop(0)", "block(0, 5)", 9);
        E.stays("20: one that was dropped", "add 0:0-9=1; 2 times ask(0, 1, 0, 0); drop(1)", "block(0, 5)", 9);
        E.stays("20: a block of which all was read", "add 0:0-9=1; addBlock(); ask(0, 1, 0, 0); readFrom(0)",
                "block(0, 5)", 9);
        E.stays("20: as it was narrowed", "add 0:0-9=1,3; ask(0, 1, 0, 0); narrow(0)", "block(0, 5)", 2);
        String least = "add 0:5-9=8; add 0:0-9=6; ask(2, 1, 0, 0)";
        E.stays("20: least, before a row is read", least, "block(0, 5)", 100);
        E.stays("20: least, 6 was read", least + "; add 0:0-9=5; readFrom(1)", "block(0, 5)", 100);
        E.stays("20: least, 5 was read", least + "; add 0:0-9=5; readFrom(2)", "block(0, 5)", 0);
        E.stays("20: least, a row was changed", least + "; add 0:0-9=5; readFrom(1); change(1, 0, 5)", "block(0, 5)", 0);
        E.stays("20: least, a row was changed back", least + "; add 0:0-9=5; readFrom(1); change(1, 0, 5); change(1, 0, 6)",
                "block(0, 5)", 100);
        E.stays("20: least, all was forgotten", least + "; add 0:0-9=5; readFrom(2); forget()", "block(0, 5)", 100);
        E.stays("20: least, undone", least + "; add 0:0-9=5; readFrom(2); undo()", "block(0, 5)", 100);
        E.stays("20: least, restored", least + "; add 0:0-9=5; keep(); readFrom(2); restore()", "block(0, 5)", 100);
        String greatest = "add 0:0-4=1; add 0:0-9=3; ask(3, 1, 0, 0)";
        E.stays("20: greatest, before a row is read", greatest, "block(0, 5)", 100);
        E.stays("20: greatest, 3 was read", greatest + "; add 0:0-9=4; readFrom(1)", "block(0, 5)", 100);
        E.stays("20: greatest, 4 was read", greatest + "; add 0:0-9=4; readFrom(2)", "block(0, 5)", 0);
        E.stays("20: greatest, a block came with a greater bottom", greatest + "; add 0:4-9=4", "block(0, 5)", 0);
        E.stays("20: greatest, a block was narrowed", greatest + "; addRow(1, 9); narrow(1)", "block(0, 5)", 100);
        E.stays("20: greatest, a block was narrowed to 4", greatest + "; addRow(1, 9); change(1, 0, 4); narrow(1)",
                "block(0, 5)", 0);
    }

    // ---- value

    private static void values() {
        String steps = "add 0:0-999=0,999,5; addBlock(); 2 times readFrom(0)";
        E.stays("21: the first row", steps, "value(0, 0)", 0);
        E.stays("21: the last row that was read", steps, "value(0, 1)", 999);
        E.stays("21: the first row that was not", steps, "value(0, 2)", NOT_POSSIBLE);
        E.stays("21: nothing was read of the block", steps, "value(1, 0)", NOT_POSSIBLE);
        E.stays("21: the last row, nothing was read of the block", steps, "value(1, 2)", NOT_POSSIBLE);
        E.stays("21: the 16th row, nothing was read", ALL_128, "value(7, 15)", NOT_POSSIBLE);
        E.stays("21: one behind the last row", steps, "value(0, 3)", UNKNOWN);
        E.stays("21: one behind the last row, nothing was read", steps, "value(1, 3)", UNKNOWN);
        E.stays("21: one behind the last row, all was read", steps + "; readFrom(0)", "value(0, 3)", UNKNOWN);
        E.stays("21: one ahead of the first row", steps, "value(0, -1)", UNKNOWN);
        E.stays("21: one behind the last block", steps, "value(2, 0)", UNKNOWN);
        E.stays("21: one ahead of the first block", steps, "value(-1, 0)", UNKNOWN);
        E.stays("21: nothing there yet", "", "value(0, 0)", UNKNOWN);
        E.stays("21: the 16th row", ALL_128 + "; read(128)", "value(7, 15)", 5);
        E.stays("21: behind the 16th row", ALL_128 + "; read(128)", "value(7, 16)", UNKNOWN);
        E.stays("21: one behind the last of eight", ALL_128 + "; read(128)", "value(8, 0)", UNKNOWN);
        E.stays("21: the 16th row was not read", ALL_128 + "; 15 times readFrom(7)", "value(7, 15)", NOT_POSSIBLE);
        E.stays("21: the 15th row was", ALL_128 + "; 15 times readFrom(7)", "value(7, 14)", 4);
        for (int far : FAR) {
            E.stays("21: far from any row", steps, "value(0, " + far + ")", UNKNOWN);
            E.stays("21: far from any block", steps, "value(" + far + ", 0)", UNKNOWN);
        }
        E.stays("21: all was forgotten", steps + "; forget()", "value(0, 0)", NOT_POSSIBLE);
        E.stays("21: a row that was added", steps + "; readFrom(0); addRow(0, 9)", "value(0, 3)", NOT_POSSIBLE);
        E.stays("21: a row that was undone", steps + "; addRow(0, 9); undo()", "value(0, 3)", UNKNOWN);
    }

    // ---- question

    private static void questions() {
        String steps = "add 0:0-9=3,4,5; ask(0, 1, 0, 18); ask(1, 3, 4, 0); ask(2, 8, 0, 5); read(1); addRow(0, 9)";
        int[] stopped = {0, 1, 0, 18, 1, 3, 30, 12, 3, 21, 9, 4, 1};
        int[] open = {1, 3, 4, 0, 0, 0, 3, 0, NONE, NONE, NONE, 4, 1};
        int[] empty = {2, 8, 0, 5, 0, NONE, NONE, NONE, NONE, NONE, NONE, 0, 0};
        for (int what = 0; what <= 12; what++) {
            E.stays("22: one that is stopped", steps, "question(0, " + what + ")", stopped[what]);
            E.stays("22: one that is open", steps, "question(1, " + what + ")", open[what]);
            E.stays("22: one without rows", steps, "question(2, " + what + ")", empty[what]);
            E.stays("22: nothing there yet", "", "question(0, " + what + ")", UNKNOWN);
            E.stays("22: one behind the last", steps, "question(3, " + what + ")", UNKNOWN);
            E.stays("22: one ahead of the first", steps, "question(-1, " + what + ")", UNKNOWN);
        }
        for (int question = 0; question <= 2; question++) {
            E.stays("22: one ahead of the first number", steps, "question(" + question + ", -1)", BAD);
            E.stays("22: one behind the last number", steps, "question(" + question + ", 13)", BAD);
        }
        for (int far : FAR) {
            E.stays("22: far from any number", steps, "question(0, " + far + ")", BAD);
            E.stays("22: far from any question", steps, "question(" + far + ", 0)", UNKNOWN);
            E.stays("22: UNKNOWN comes ahead of BAD_VALUE, far", steps, "question(" + far + ", " + far + ")", UNKNOWN);
        }
        E.stays("22: UNKNOWN comes ahead of BAD_VALUE, below", steps, "question(3, -1)", UNKNOWN);
        E.stays("22: UNKNOWN comes ahead of BAD_VALUE, above", steps, "question(-1, 13)", UNKNOWN);
        E.stays("22: the last of six", "6 times ask(0, 1, 0, 9)", "question(5, 3)", 9);
        E.stays("22: one behind the last of six", "6 times ask(0, 1, 0, 9)", "question(6, 3)", UNKNOWN);
        E.stays("22: one that was dropped", "ask(0, 1, 0, 9); drop(0)", "question(0, 3)", UNKNOWN);
        E.due("22: all 128 rows", ALL_128 + "; ask(0, 1, 0, 0); read(128)", "question(0, 11)", 128);
        E.due("22: all 128 of them were read", ALL_128 + "; ask(0, 1, 0, 0); read(128)", "question(0, 12)", 128);
        E.due("22: none of its rows, though others were read", "add 0:0-9=3; add 1:0-9=3; ask(0, 2, 0, 0); readFrom(0)",
                "question(0, 12)", 0);
    }

    /** What is told of a new question with the tolerance 0, of all rows of the layers 0 and 1. */
    private static void told(String message, String steps, int kind, int limit, int what, int want) {
        E.stays("22: " + message, steps + "; ask(" + kind + ", 3, " + limit + ", 0)", "question(0, " + what + ")", want);
    }

    private static void bounds() {
        String steps = "add 0:10-20=12,15,11; add 1:5-30=7";
        int[] lower = {35, 0, 5, 10, 875};
        int[] upper = {90, 4, 20, 30, 2250};
        int[] lowerThen = {12 + 10 + 10 + 7, 0, 7, 12, 975};
        int[] upperThen = {12 + 20 + 20 + 7, 2, 7, 20, 1475};
        String then = steps + "; readFrom(0); readFrom(1)";
        int[] sure = {45, 1, 7, 15, 1125};
        for (int kind = 0; kind <= 4; kind++) {
            int limit = kind == 1 ? 15 : 0;
            told("lower bound, nothing was read, kind " + kind, steps, kind, limit, LOWER, lower[kind]);
            told("upper bound, nothing was read, kind " + kind, steps, kind, limit, UPPER, upper[kind]);
            told("lower bound, some was read, kind " + kind, then, kind, limit, LOWER, lowerThen[kind]);
            told("upper bound, some was read, kind " + kind, then, kind, limit, UPPER, upperThen[kind]);
            for (int what = LOWER; what <= GUESS; what++) {
                told("all was read, kind " + kind, steps + "; read(128)", kind, limit, what, sure[kind]);
            }
        }
        told("the widest sum, lower", ALL_128.replace("0-9", "0-999"), 0, 0, LOWER, 0);
        told("the widest sum, upper", ALL_128.replace("0-9", "0-999"), 0, 0, UPPER, 127872);
        told("the greatest mean", "add 0:999-999=999; 15 times addRow(0, 999)", 4, 0, LOWER, 99900);
        told("the least mean", "add 0:0-0=0", 4, 0, UPPER, 0);
    }

    private static void howManyAtLimits() {
        String read = "add 0:0-9=5; read(1)";
        told("how many, a value one below the limit", read, 1, 6, LOWER, 0);
        told("how many, a value at the limit", read, 1, 5, LOWER, 1);
        told("how many, a value one above the limit", read, 1, 4, LOWER, 1);
        String unread = "add 0:5-9=7";
        told("how many, a bottom one below the limit", unread, 1, 6, LOWER, 0);
        told("how many, a bottom at the limit", unread, 1, 5, LOWER, 1);
        told("how many, a top one below the limit", unread, 1, 10, UPPER, 0);
        told("how many, a top at the limit", unread, 1, 9, UPPER, 1);
        told("how many, a guess one below the limit", unread, 1, 8, GUESS, 0);
        told("how many, a guess at the limit", unread, 1, 7, GUESS, 1);
        told("how many, all values are at least 0", "add 0:0-9=0,0,0", 1, 0, LOWER, 3);
        told("how many, a value of 999 at the limit 999", "add 0:0-999=999,998; read(2)", 1, 999, LOWER, 1);
    }

    private static void leastAndGreatest() {
        told("least, of a row that was read", "add 0:3-9=4,9; readFrom(0); add 1:5-9=8", 2, 0, UPPER, 4);
        told("least, of a row that was not", "add 0:3-9=4,9; readFrom(0); add 1:5-9=8", 2, 0, LOWER, 3);
        told("least, the last row was read", "add 0:3-9=9,4; read(2); add 1:5-9=8", 2, 0, LOWER, 4);
        told("least, of another block", "add 0:3-9=9,4; read(2); add 1:2-9=8", 2, 0, LOWER, 2);
        told("least, its upper bound is another block's top", "add 0:3-9=9,8; read(2); add 1:2-6=5", 2, 0, UPPER, 6);
        told("greatest, of a row that was read", "add 0:3-9=8,4; readFrom(0); add 1:3-7=4", 3, 0, LOWER, 8);
        told("greatest, of a row that was not", "add 0:3-9=8,4; readFrom(0); add 1:3-7=4", 3, 0, UPPER, 9);
        told("greatest, the last row was read", "add 0:3-9=4,8; read(2); add 1:3-7=4", 3, 0, UPPER, 8);
        told("greatest, of another block", "add 0:3-9=4,6; read(2); add 1:3-7=4", 3, 0, UPPER, 7);
        told("greatest, its lower bound is another block's bottom", "add 0:3-9=4,5; read(2); add 1:6-9=8", 3, 0, LOWER, 6);
        told("least, of 999 alone", "add 0:999-999=999", 2, 0, LOWER, 999);
        told("greatest, of 0 alone", "add 0:0-0=0", 3, 0, UPPER, 0);
    }

    private static void meansAreRoundedDown() {
        told("the mean of 0, 0 and 1", "add 0:0-1=0,0,1; read(3)", 4, 0, LOWER, 33);
        told("the mean of 0, 1 and 1", "add 0:0-1=0,1,1; read(3)", 4, 0, LOWER, 66);
        told("the mean of 1, 1 and 1", "add 0:0-1=1,1,1; read(3)", 4, 0, LOWER, 100);
        told("the mean of 998 and 999", "add 0:0-999=998,999; read(2)", 4, 0, LOWER, 99850);
        told("its upper bound is rounded down, too", "add 0:0-1=0,0,1; read(1)", 4, 0, UPPER, 66);
        told("its guess is rounded down, too", "add 0:0-9=1,1,1; add 1:0-0=0; add 1:0-3=0; add 1:0-0=0", 4, 0, GUESS, 216);
    }

    /** The guess for the sum of the layer 0; the block that is guessed comes last, with one row. */
    private static void guess(String message, String steps, int want) {
        E.stays("22: " + message, steps + "; ask(0, 1, 0, 0)", "question(0, 7)", want);
    }

    private static void guesses() {
        guess("nothing was read, the bottom is the top", "add 0:0-0=0", 0);
        guess("nothing was read, the bottom is the top, 999", "add 0:999-999=999", 999);
        guess("nothing was read, half of an odd sum is rounded down", "add 0:0-1=1", 0);
        guess("nothing was read, half of an odd sum is rounded down, 7", "add 0:3-4=4", 3);
        guess("nothing was read, half of an even sum", "add 0:3-5=5", 4);
        guess("nothing was read, as wide as can be", "add 0:0-999=1", 499);
        guess("nothing was read, each block by itself", "add 0:0-9=9; add 0:100-200=100", 4 + 150);
        guess("nothing was read in its layer, but in another", "add 1:0-99=90; read(1); add 0:0-9=9", 4);
        guess("a value of 0 was read in its layer", "add 0:0-9=0; read(1); add 0:0-9=9", 0);
        guess("one value was read in its layer", "add 0:0-99=7; read(1); add 0:0-9=9", 7 + 7);
        guess("two values were read, an odd sum", "add 0:0-99=7,8; read(2); add 0:0-9=9", 15 + 7);
        guess("three values were read, a rest of 2", "add 0:0-99=7,8,8; read(3); add 0:0-9=9", 23 + 7);
        guess("values that were read in another layer do not count",
                "add 0:0-99=2; add 1:0-99=99; read(2); add 0:0-9=9", 2 + 2);
        guess("values that were not read do not count", "add 0:0-99=2,98; read(1); add 0:0-9=9", 2 + 2 + 2);
        guess("the mean of its layer is its bottom", "add 0:0-99=5; read(1); add 0:5-9=9", 5 + 5);
        guess("the mean of its layer is one below its bottom", "add 0:0-99=4; read(1); add 0:5-9=9", 4 + 5);
        guess("the mean of its layer is one above its bottom", "add 0:0-99=6; read(1); add 0:5-9=9", 6 + 6);
        guess("the mean of its layer is its top", "add 0:0-99=9; read(1); add 0:5-9=6", 9 + 9);
        guess("the mean of its layer is one above its top", "add 0:0-99=10; read(1); add 0:5-9=6", 10 + 9);
        guess("the mean of its layer is one below its top", "add 0:0-99=8; read(1); add 0:5-9=6", 8 + 8);
        guess("the mean of its layer is far above its top", "add 0:0-999=999; read(1); add 0:5-9=6", 999 + 9);
        guess("all of its layer was forgotten", "add 0:0-9=9; read(1); forget(); add 0:0-9=9", 4 + 4);
        guess("all was read in two blocks of its layer", "add 0:0-99=2,3; add 0:0-99=10; read(3); add 0:0-9=9", 15 + 5);
        guess("the value that was read was changed", "add 0:0-99=2; read(1); change(0, 0, 8); add 0:0-9=9", 8 + 8);
        guess("the block was narrowed", "add 0:0-99=2; read(1); add 0:0-9=5,6; narrow(1)", 2 + 5 + 5);
        told("each layer by itself", "add 0:0-9=9,9; add 1:0-9=1,1; readFrom(0)", 0, 0, GUESS, 9 + 9 + 4 + 4);
        told("each layer by itself, both were read", "add 0:0-9=9,9; add 1:0-9=1,1; readFrom(0); readFrom(1)", 0, 0, GUESS, 20);
        told("least, by the guess of a row", "add 0:0-9=6,9; readFrom(0); add 1:2-5=5", 2, 0, GUESS, 3);
        told("greatest, by the guess of a row", "add 0:0-9=2,9; readFrom(0); add 1:2-5=5", 3, 0, GUESS, 3);
        told("rows of the layer that are not the question's count for the guess",
                "add 0:0-99=50; read(1); add 0:0-99=10; add 1:0-9=3", 0, 0, GUESS, 50 + 50 + 4);
    }

    // ---- next, stopsIn, best, count

    private static void next() {
        String steps = "add 0:5-9=6; add 0:5-9=6,7";
        E.stays("23: the block", steps, "next(0)", 0);
        E.stays("23: its row, the first", steps + "; read(1)", "next(1)", 0);
        E.stays("23: its row, the last", steps + "; read(2)", "next(1)", 1);
        E.stays("23: the last block of eight", EIGHT + "; read(7)", "next(0)", 7);
        E.stays("23: the first block, behind the eighth", EIGHT + "; read(8)", "next(0)", 0);
        E.stays("23: the 16th row", ALL_128 + "; read(127)", "next(1)", 15);
        E.stays("23: the 16th row is of the last block", ALL_128 + "; read(127)", "next(0)", 7);
        for (int what = 0; what <= 1; what++) {
            E.stays("23: nothing there yet", "", "next(" + what + ")", NONE);
            E.stays("23: all was read", steps + "; read(3)", "next(" + what + ")", NONE);
            E.stays("23: all was read, by the plan 1", steps + "; read(3); setPlan(1)", "next(" + what + ")", NONE);
            E.stays("23: all was read, by the plan 2", steps + "; read(3); setPlan(2)", "next(" + what + ")", NONE);
            E.stays("23: all 128 were read", ALL_128 + "; read(128)", "next(" + what + ")", NONE);
        }
        for (int bad : new int[] {-1, 2, MIN, MAX, 256, 65536}) {
            E.stays("23: there is no number " + bad, steps, "next(" + bad + ")", BAD);
            E.stays("23: BAD_VALUE comes ahead of NONE, nothing there yet", "", "next(" + bad + ")", BAD);
            E.stays("23: BAD_VALUE comes ahead of NONE, all was read", steps + "; read(3)", "next(" + bad + ")", BAD);
        }
        E.stays("23: a row that was read from the block does not come again", steps + "; readFrom(1); read(1)", "next(1)", 1);
    }

    private static void stopsIn() {
        String rows = "add 0:0-9=1,2,3";
        E.stays("24: one row", rows + "; ask(0, 1, 0, 18)", "stopsIn(0)", 1);
        E.stays("24: one row is not enough by one", rows + "; ask(0, 1, 0, 17)", "stopsIn(0)", 2);
        E.stays("24: all rows", rows + "; ask(0, 1, 0, 0)", "stopsIn(0)", 3);
        E.stays("24: the one row that is left", rows + "; ask(0, 1, 0, 0); read(2)", "stopsIn(0)", 1);
        E.stays("24: all 128 rows", ALL_128 + "; ask(0, 1, 0, 0)", "stopsIn(0)", 128);
        E.stays("24: all 128 rows but one", ALL_128 + "; ask(0, 1, 0, 9)", "stopsIn(0)", 127);
        E.stays("24: NONE without rows, no blocks", "ask(0, 1, 0, 99999)", "stopsIn(0)", NONE);
        E.stays("24: NONE without rows, blocks of other layers", rows + "; ask(0, 14, 0, 99999)", "stopsIn(0)", NONE);
        E.stays("24: NONE without rows, all was read", rows + "; ask(0, 14, 0, 99999); read(3)", "stopsIn(0)", NONE);
        E.stays("24: stopped as it was asked", rows + "; ask(0, 1, 0, 99)", "stopsIn(0)", NOT_POSSIBLE);
        E.stays("24: stopped by a word", rows + "; ask(0, 1, 0, 0); stop(0)", "stopsIn(0)", NOT_POSSIBLE);
        E.stays("24: stopped, and all was read", rows + "; ask(0, 1, 0, 0); read(3)", "stopsIn(0)", NOT_POSSIBLE);
        E.stays("24: stopped, and wider than its tolerance by now", rows + "; ask(0, 1, 0, 9); read(2); forget()",
                "stopsIn(0)", NOT_POSSIBLE);
        E.stays("24: nothing there yet", rows, "stopsIn(0)", UNKNOWN);
        E.stays("24: one behind the last", rows + "; ask(0, 1, 0, 0)", "stopsIn(1)", UNKNOWN);
        E.stays("24: one ahead of the first", rows + "; ask(0, 1, 0, 0)", "stopsIn(-1)", UNKNOWN);
        E.stays("24: the last of six", rows + "; 6 times ask(0, 1, 0, 0)", "stopsIn(5)", 3);
        E.stays("24: one behind the last of six", rows + "; 6 times ask(0, 1, 0, 0)", "stopsIn(6)", UNKNOWN);
        E.stays("24: one behind the last, which is stopped", rows + "; ask(0, 1, 0, 99)", "stopsIn(1)", UNKNOWN);
        for (int far : FAR) {
            E.stays("24: far from any", rows + "; ask(0, 1, 0, 0)", "stopsIn(" + far + ")", UNKNOWN);
        }
        String two = "add 0:0-9=1,2; add 1:0-99=5,50; ask(0, 1, 0, 9); ask(0, 2, 0, 0)";
        E.stays("24: by turn, from the first block", two, "stopsIn(0)", 1);
        E.stays("24: by turn, from the turn that is now", two + "; read(1); forget(); ask(0, 1, 0, 9)", "stopsIn(2)", 2);
        E.stays("24: by products", two + "; setPlan(1)", "stopsIn(0)", 3);
        E.stays("24: by weights", two + "; setPlan(2)", "stopsIn(0)", 3);
        E.stays("24: by weights, when the others stop they do not weigh", two + "; setTolerance(1, 99); setPlan(2)",
                "stopsIn(0)", 2);
        E.stays("24: rows that were read from a block are not to be read", two + "; setPlan(1); 2 times readFrom(1)",
                "stopsIn(0)", 1);
    }

    private static void best() {
        String two = "add 0:0-9=1,2; add 1:0-99=5,50";
        bestIs("the plan 0 alone", "add 0:0-9=9,9,9; add 1:0-9=0; ask(2, 3, 0, 0)", 0, 2);
        bestIs("the plan 1 alone", "add 0:0-9=9,9; add 1:0-99=0; ask(2, 3, 0, 0)", 1, 1);
        bestIs("the plan 2 alone", two + "; ask(0, 1, 0, 0); read(1)", 2, 1);
        bestIs("the plans 0 and 1, the lowest", "add 0:0-99=99,50; add 0:0-150=0; ask(2, 1, 0, 0)", 0, 2);
        bestIs("the plans 0 and 2, the lowest", two + "; ask(0, 1, 0, 9)", 0, 1);
        bestIs("the plans 1 and 2, the lowest", two + "; ask(0, 2, 0, 99)", 1, 1);
        bestIs("all plans alike, the lowest", two + "; ask(0, 3, 0, 0)", 0, 4);
        bestIs("all plans alike, whatever the plan is", two + "; ask(0, 3, 0, 0); setPlan(2)", 0, 4);
        bestIs("whatever the plan is, 1", two + "; ask(0, 1, 0, 0); read(1); setPlan(1)", 2, 1);
        bestIs("from the turn that is now", two + "; read(1); ask(0, 2, 0, 99)", 0, 1);
        bestIs("all 128 rows", ALL_128 + "; ask(0, 1, 0, 0)", 0, 128);
        bestIs("one row is left", two + "; ask(0, 3, 0, 0); read(3)", 0, 1);
        bestIs("until the last of two is stopped", "add 0:0-9=1,2,3; ask(0, 1, 0, 18); ask(0, 1, 0, 9)", 0, 2);
        bestIs("those that are stopped do not count", "add 0:0-9=1,2,3; ask(0, 1, 0, 99); ask(0, 1, 0, 18)", 0, 1);
        for (int what = 0; what <= 1; what++) {
            String best = "best(" + what + ")";
            E.stays("25: nothing there yet", "", best, NOT_POSSIBLE);
            E.stays("25: no question", two, best, NOT_POSSIBLE);
            E.stays("25: all are stopped", two + "; ask(0, 3, 0, 999); ask(0, 3, 0, 0); stop(1)", best, NOT_POSSIBLE);
            E.stays("25: all was read, so all are stopped", two + "; ask(0, 3, 0, 0); read(4)", best, NOT_POSSIBLE);
            E.stays("25: NONE without blocks", "ask(0, 1, 0, 99999)", best, NONE);
            E.stays("25: NONE, one without rows", two + "; ask(0, 8, 0, 99999)", best, NONE);
            E.stays("25: NONE, one without rows and one with", two + "; ask(0, 3, 0, 0); ask(0, 8, 0, 0)", best, NONE);
            E.stays("25: NONE, one without rows and one that is stopped", two + "; ask(0, 3, 0, 999); ask(0, 8, 0, 0)",
                    best, NONE);
            E.stays("25: NONE, one without rows, all was read", two + "; read(4); ask(0, 8, 0, 0)", best, NONE);
        }
        for (int bad : new int[] {-1, 2, MIN, MAX, 256, 65536}) {
            E.stays("25: there is no number " + bad, two + "; ask(0, 1, 0, 0)", "best(" + bad + ")", BAD);
            E.stays("25: BAD_VALUE comes ahead of NOT_POSSIBLE", two, "best(" + bad + ")", BAD);
            E.stays("25: BAD_VALUE comes ahead of NONE", two + "; ask(0, 8, 0, 0)", "best(" + bad + ")", BAD);
        }
    }

    private static void bestIs(String message, String steps, int plan, int rows) {
        E.stays("25: " + message, steps, "best(0)", plan);
        E.stays("25: " + message + ", rows", steps, "best(1)", rows);
        E.due("25: so many are read by it", steps + "; setPlan(" + plan + ")", "readOn()", rows);
    }

    private static void counts() {
        String full = ALL_128 + "; 6 times ask(4, 1, 0, 0); setPlan(2); read(127); text 0:1-2=1; 73 times type(48)";
        int[] most = {8, 6, 6, 2, 128, 127, 0, 4, 80};
        for (int what = 0; what <= 8; what++) {
            E.stays("26: nothing there yet", "", "count(" + what + ")", 0);
            E.stays("26: full", full, "count(" + what + ")", most[what]);
        }
        for (int bad : new int[] {-1, 9, MIN, MAX, 256, 65536}) {
            E.stays("26: there is no number " + bad, "", "count(" + bad + ")", BAD);
            E.stays("26: there is no number " + bad + ", full", full, "count(" + bad + ")", BAD);
        }
        E.due("26: the 512th call of an object still answers", "add 0:1-2=1; 502 times type(48)", "count(8)", 80);
        E.due("26: all were read, so none is open", full + "; read(1)", "count(2)", 0);
        E.due("26: all were read", full + "; read(1)", "count(5)", 128);
        E.due("26: open ones, one without rows", "add 0:0-9=1; ask(0, 1, 0, 9); ask(0, 2, 0, 9)", "count(2)", 1);
        E.due("26: all questions, stopped or not", "add 0:0-9=1; ask(0, 1, 0, 9); ask(0, 2, 0, 9)", "count(1)", 2);
        E.due("26: the turn of the last of eight", EIGHT + "; read(7)", "count(6)", 7);
        E.due("26: rows that were added", "add 0:0-9=1; addRow(0, 5)", "count(4)", 2);
        E.due("26: rows of all layers", "add 0:0-9=1; add 3:0-9=1,2", "count(4)", 3);
        E.due("26: the text, empty again", "text 0:1; clearText()", "count(8)", 0);
    }

    public static void main(String[] args) {
        blocks();
        weights();
        weightsTogether();
        values();
        questions();
        bounds();
        howManyAtLimits();
        leastAndGreatest();
        meansAreRoundedDown();
        guesses();
        next();
        stopsIn();
        best();
        counts();
        E.end();
    }
}
