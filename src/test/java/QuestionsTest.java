/** Promises 7 to 10: the calls on questions, and how they stop. */
public final class QuestionsTest {
    private static final Checks C = new Checks("QuestionsTest");

    private static void promise7Ask() {
        SureAnswers x = new SureAnswers();
        C.due("7: the first one", x.ask(1, 15, 999, 99999), 0);
        C.due("7: its kind", x.question(0, 0), 1);
        C.due("7: its layers", x.question(0, 1), 15);
        C.due("7: its limit", x.question(0, 2), 999);
        C.due("7: its tolerance", x.question(0, 3), 99999);
        C.due("7: without rows it is open", x.question(0, 4), 0);
        C.due("7: an act", x.count(7), 1);
        C.due("7: kind -1", x.ask(-1, 1, 0, 0), SureAnswers.BAD_VALUE);
        C.due("7: kind 5", x.ask(5, 1, 0, 0), SureAnswers.BAD_VALUE);
        C.due("7: layers 0", x.ask(0, 0, 0, 0), SureAnswers.BAD_VALUE);
        C.due("7: layers 16", x.ask(0, 16, 0, 0), SureAnswers.BAD_VALUE);
        C.due("7: layers -1", x.ask(0, -1, 0, 0), SureAnswers.BAD_VALUE);
        C.due("7: limit -1", x.ask(1, 1, -1, 0), SureAnswers.BAD_VALUE);
        C.due("7: limit 1000", x.ask(1, 1, 1000, 0), SureAnswers.BAD_VALUE);
        for (int kind = 0; kind <= 4; kind++) {
            if (kind != 1) {
                C.due("7: a limit for the kind " + kind, x.ask(kind, 1, 1, 0), SureAnswers.BAD_VALUE);
            }
        }
        C.due("7: tolerance -1", x.ask(0, 1, 0, -1), SureAnswers.BAD_VALUE);
        C.due("7: tolerance 100000", x.ask(0, 1, 0, 100000), SureAnswers.BAD_VALUE);
        C.due("7: none was asked", x.count(1), 1);
        C.due("7: limit 0 for the kind 1", x.ask(1, 1, 0, 0), 1);
        for (int i = 2; i < 6; i++) {
            C.due("7: one more", x.ask(4, 1, 0, 0), i);
        }
        C.due("7: a seventh", x.ask(4, 1, 0, 0), SureAnswers.FULL);
        C.due("7: BAD_VALUE goes ahead of FULL", x.ask(5, 1, 0, 0), SureAnswers.BAD_VALUE);
        C.due("7: six are left", x.count(1), 6);
        x.undo();
        C.due("7: the latest state is that before the sixth", x.count(1), 5);
    }

    private static void promise7StopsAtOnce() {
        SureAnswers x = Checks.with("0:10-20=12,15");
        x.ask(0, 1, 0, 19);
        x.ask(0, 1, 0, 20);
        C.due("7: the width is above the tolerance", x.question(0, 4), 0);
        C.due("7: the width is the tolerance", x.question(1, 4), 1);
        C.due("7: kept lower bound", x.question(1, 8), 20);
        C.due("7: kept upper bound", x.question(1, 9), 40);
        C.due("7: the final answer is the guess", x.question(1, 10), 30);
        x.undo();
        C.due("7: an act", x.count(1), 1);
        // Behind each row that is read the questions are looked at.
        x.ask(4, 1, 0, 500);
        C.due("7: 500 hundredths are left after one row", x.read(1), 1);
        C.due("7: so the mean stops", x.question(1, 4), 1);
        C.due("7: 100 * (12 + 10) / 2", x.question(1, 8), 1100);
        C.due("7: 100 * (12 + 20) / 2", x.question(1, 9), 1600);
        C.due("7: 100 * (12 + 12) / 2", x.question(1, 10), 1200);
        x.read(1);
        C.due("7: they stay", x.question(1, 10), 1200);
        C.due("7: the sum stopped with the first row, too", x.question(0, 10), 24);
    }

    private static void promise8SetTolerance() {
        SureAnswers x = Checks.with("0:0-10=3,4");
        x.ask(0, 1, 0, 5);
        C.due("8: the previous one", x.setTolerance(0, 19), 5);
        C.due("8: the new one", x.question(0, 3), 19);
        C.due("8: it is open still", x.question(0, 4), 0);
        C.due("8: an act", x.count(7), 3);
        C.due("8: so already", x.setTolerance(0, 19), SureAnswers.NONE);
        C.due("8: no such question", x.setTolerance(1, 0), SureAnswers.UNKNOWN);
        C.due("8: no such question below 0", x.setTolerance(-1, 0), SureAnswers.UNKNOWN);
        C.due("8: UNKNOWN goes first", x.setTolerance(1, -1), SureAnswers.UNKNOWN);
        C.due("8: -1", x.setTolerance(0, -1), SureAnswers.BAD_VALUE);
        C.due("8: 100000", x.setTolerance(0, 100000), SureAnswers.BAD_VALUE);
        C.due("8: states stay", x.count(7), 3);
        C.due("8: it stops by that", x.setTolerance(0, 20), 19);
        C.due("8: it is stopped", x.question(0, 4), 1);
        C.due("8: its final answer", x.question(0, 10), 10);
        C.due("8: stopped already", x.setTolerance(0, 1), SureAnswers.NOT_POSSIBLE);
        C.due("8: NOT_POSSIBLE goes ahead of NONE", x.setTolerance(0, 20), SureAnswers.NOT_POSSIBLE);
        C.due("8: BAD_VALUE goes ahead of NOT_POSSIBLE", x.setTolerance(0, -1), SureAnswers.BAD_VALUE);
        x.undo();
        C.due("8: open again", x.setTolerance(0, 99999), 19);
        SureAnswers y = new SureAnswers();
        y.ask(0, 1, 0, 5);
        C.due("8: a question without rows", y.setTolerance(0, 0), 5);
    }

    private static void promise9Stop() {
        SureAnswers x = Checks.with("0:0-10=3,4", "1:5-5=5");
        x.ask(0, 1, 0, 0);
        x.ask(2, 2, 0, 0);
        x.ask(3, 4, 0, 0);
        x.read(1);
        C.due("9: its final answer, 3 and a guess of 3", x.stop(0), 6);
        C.due("9: it is stopped", x.question(0, 4), 1);
        C.due("9: kept lower bound", x.question(0, 8), 3);
        C.due("9: kept upper bound", x.question(0, 9), 13);
        C.due("9: kept guess", x.question(0, 10), 6);
        C.due("9: stopped by a word", x.stop(0), SureAnswers.NOT_POSSIBLE);
        C.due("9: stopped as it was asked", x.stop(1), SureAnswers.NOT_POSSIBLE);
        C.due("9: no rows", x.stop(2), SureAnswers.NOT_POSSIBLE);
        C.due("9: no such question", x.stop(3), SureAnswers.UNKNOWN);
        C.due("9: no such question below 0", x.stop(-1), SureAnswers.UNKNOWN);
        x.change(0, 0, 9);
        x.readFrom(0);
        C.due("9: the final answer stays", x.question(0, 10), 6);
        C.due("9: the lower bound stays", x.question(0, 8), 3);
        C.due("9: the upper bound stays", x.question(0, 9), 13);
        C.due("9: those by now do not", x.question(0, 5), 13);
        x.undo();
        x.undo();
        x.undo();
        C.due("9: an act", x.question(0, 4), 0);
        C.due("9: NONE while it is open", x.question(0, 10), SureAnswers.NONE);
    }

    private static void promise10Drop() {
        SureAnswers x = Checks.with("0:0-10=3,4");
        x.ask(0, 1, 0, 1);
        x.ask(1, 1, 7, 0);
        x.ask(2, 1, 0, 99);
        x.ask(3, 1, 0, 2);
        C.due("10: three are left", x.drop(1), 3);
        C.due("10: the first one stays", x.question(0, 0), 0);
        C.due("10: the third one comes earlier", x.question(1, 0), 2);
        C.due("10: with its tolerance", x.question(1, 3), 99);
        C.due("10: stopped as it was", x.question(1, 4), 1);
        C.due("10: with what was kept", x.question(1, 10), 5);
        C.due("10: the fourth one too", x.question(2, 0), 3);
        C.due("10: open as it was", x.question(2, 4), 0);
        C.due("10: no fourth one", x.question(3, 0), SureAnswers.UNKNOWN);
        C.due("10: no such question", x.drop(3), SureAnswers.UNKNOWN);
        C.due("10: no such question below 0", x.drop(-1), SureAnswers.UNKNOWN);
        C.due("10: the last one", x.drop(2), 2);
        C.due("10: the first one", x.drop(0), 1);
        C.due("10: the only one", x.drop(0), 0);
        C.due("10: none is left", x.drop(0), SureAnswers.UNKNOWN);
        C.due("10: acts", x.count(7), 4);
        x.undo();
        C.due("10: undone", x.question(0, 10), 5);
        C.due("10: a new one is open", x.ask(0, 1, 0, 0), 1);
        C.due("10: whatever was there", x.question(1, 4), 0);
    }

    public static void main(String[] args) {
        promise7Ask();
        promise7StopsAtOnce();
        promise8SetTolerance();
        promise9Stop();
        promise10Drop();
        C.end();
    }
}
