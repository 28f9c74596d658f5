/** Promises 20 to 26: what is told. */
public final class ToldTest {
    private static final Checks C = new Checks("ToldTest");

    private static void promise20Block() {
        SureAnswers x = Checks.with("2:10-20=11,12,13", "0:1-1=1");
        x.ask(0, 4, 0, 0);
        x.readFrom(0);
        x.readFrom(0);
        int[] want = {2, 10, 20, 3, 2, 10, 23};
        for (int what = 0; what < want.length; what++) {
            C.due("20: block(0, " + what + ")", x.block(0, what), want[what]);
        }
        C.due("20: what -1", x.block(0, -1), SureAnswers.BAD_VALUE);
        C.due("20: what 7", x.block(0, 7), SureAnswers.BAD_VALUE);
        C.due("20: no such block", x.block(2, 0), SureAnswers.UNKNOWN);
        C.due("20: no such block below 0", x.block(-1, 0), SureAnswers.UNKNOWN);
        C.due("20: UNKNOWN goes first", x.block(2, 7), SureAnswers.UNKNOWN);
        C.due("20: the other one", x.block(1, 6), 0);
    }

    private static void promise21Value() {
        SureAnswers x = Checks.with("2:10-20=11,12,13");
        x.readFrom(0);
        x.readFrom(0);
        C.due("21: the first", x.value(0, 0), 11);
        C.due("21: the last one that was read", x.value(0, 1), 12);
        C.due("21: not read", x.value(0, 2), SureAnswers.NOT_POSSIBLE);
        C.due("21: no such row", x.value(0, 3), SureAnswers.UNKNOWN);
        C.due("21: no such row below 0", x.value(0, -1), SureAnswers.UNKNOWN);
        C.due("21: no such block", x.value(1, 0), SureAnswers.UNKNOWN);
        C.due("21: no such block below 0", x.value(-1, 0), SureAnswers.UNKNOWN);
        x.change(0, 1, 20);
        C.due("21: as it was changed", x.value(0, 1), 20);
    }

    /** The lower bound, the upper bound and the guess of a new question. */
    private static void answers(SureAnswers x, int kind, int layers, int limit, int low, int high, int guess) {
        int q = x.ask(kind, layers, limit, 0);
        String name = "22: kind " + kind + ", layers " + layers + ", limit " + limit;
        C.due(name + ", lower bound", x.question(q, 5), low);
        C.due(name + ", upper bound", x.question(q, 6), high);
        C.due(name + ", guess", x.question(q, 7), guess);
        x.drop(q);
    }

    private static void promise22Answers() {
        // Nothing is read: guesses are (10 + 21) / 2 = 15 and (0 + 5) / 2 = 2.
        SureAnswers x = Checks.with("0:10-21=12,20,11", "1:0-5=1,5", "0:30-40=40");
        answers(x, 0, 1, 0, 60, 103, 80);
        answers(x, 0, 3, 0, 60, 113, 84);
        answers(x, 1, 3, 15, 1, 4, 4);
        answers(x, 1, 3, 16, 1, 4, 1);
        answers(x, 2, 3, 0, 0, 5, 2);
        answers(x, 3, 1, 0, 30, 40, 35);
        answers(x, 4, 3, 0, 1000, 1883, 1400);
        // 12 and 20 are read: 16 in the layer 0, which is 30 in the block 2.
        x.readFrom(0);
        x.readFrom(0);
        answers(x, 0, 1, 0, 72, 93, 78);
        answers(x, 1, 1, 16, 2, 3, 3);
        answers(x, 1, 1, 17, 2, 3, 2);
        answers(x, 1, 1, 12, 3, 4, 4);
        answers(x, 2, 1, 0, 10, 12, 12);
        answers(x, 3, 1, 0, 30, 40, 30);
        answers(x, 4, 1, 0, 1800, 2325, 1950);
        // The layer 1 is guessed by itself: 1, then the bottoms and tops of others.
        x.readFrom(1);
        answers(x, 0, 2, 0, 1, 6, 2);
        // 40, 12 and 20: 24 in the layer 0, which is 21 in the block 0.
        x.readFrom(2);
        answers(x, 0, 1, 0, 82, 93, 93);
        answers(x, 4, 3, 0, 1383, 1650, 1583);
        x.read(128);
        answers(x, 0, 3, 0, 89, 89, 89);
        answers(x, 4, 3, 0, 1483, 1483, 1483);
        answers(x, 2, 1, 0, 11, 11, 11);
        answers(x, 3, 2, 0, 5, 5, 5);
        answers(x, 1, 3, 12, 3, 3, 3);
        // Values of 0 alone, and blocks of which all was read.
        SureAnswers y = Checks.with("0:0-0=0", "1:0-9=0,1", "2:5-9=7");
        answers(y, 3, 1, 0, 0, 0, 0);
        y.readFrom(0);
        y.readFrom(1);
        y.readFrom(1);
        answers(y, 3, 1, 0, 0, 0, 0);
        answers(y, 3, 3, 0, 1, 1, 1);
        answers(y, 2, 4, 0, 5, 9, 7);
        y.readFrom(2);
        answers(y, 2, 4, 0, 7, 7, 7);
        answers(y, 3, 4, 0, 7, 7, 7);
    }

    private static void promise22Question() {
        SureAnswers x = Checks.with("0:10-21=12,20,11", "1:0-5=1,5");
        x.ask(1, 3, 12, 3);
        x.ask(3, 8, 0, 7);
        x.readFrom(1);
        int[] open = {1, 3, 12, 3, 1, 0, 3, 3, 0, 3, 3, 5, 1};
        for (int what = 0; what < open.length; what++) {
            C.due("22: question(0, " + what + ")", x.question(0, what), open[what]);
        }
        int none = SureAnswers.NONE;
        int[] empty = {3, 8, 0, 7, 0, none, none, none, none, none, none, 0, 0};
        for (int what = 0; what < empty.length; what++) {
            C.due("22: without rows, question(1, " + what + ")", x.question(1, what), empty[what]);
        }
        x.ask(0, 1, 0, 0);
        x.readFrom(0);
        int[] told = {0, 1, 0, 0, 0, 32, 54, 36, none, none, none, 3, 1};
        for (int what = 0; what < told.length; what++) {
            C.due("22: open, question(2, " + what + ")", x.question(2, what), told[what]);
        }
        x.stop(2);
        x.readFrom(0);
        int[] stopped = {0, 1, 0, 0, 1, 42, 53, 48, 32, 54, 36, 3, 2};
        for (int what = 0; what < stopped.length; what++) {
            C.due("22: stopped, question(2, " + what + ")", x.question(2, what), stopped[what]);
        }
        C.due("22: what -1", x.question(0, -1), SureAnswers.BAD_VALUE);
        C.due("22: what 13", x.question(0, 13), SureAnswers.BAD_VALUE);
        C.due("22: no such question", x.question(3, 0), SureAnswers.UNKNOWN);
        C.due("22: no such question below 0", x.question(-1, 0), SureAnswers.UNKNOWN);
        C.due("22: UNKNOWN goes first", x.question(3, 13), SureAnswers.UNKNOWN);
    }

    private static void promise23Next() {
        SureAnswers x = Checks.with("0:10-21=12", "1:0-5=1,5");
        C.due("23: the block", x.next(0), 0);
        C.due("23: its row", x.next(1), 0);
        x.read(2);
        C.due("23: the block then", x.next(0), 1);
        C.due("23: its row then", x.next(1), 1);
        C.due("23: -1", x.next(-1), SureAnswers.BAD_VALUE);
        C.due("23: 2", x.next(2), SureAnswers.BAD_VALUE);
        x.read(1);
        C.due("23: all were read", x.next(0), SureAnswers.NONE);
        C.due("23: no row", x.next(1), SureAnswers.NONE);
        C.due("23: BAD_VALUE goes ahead of NONE", x.next(2), SureAnswers.BAD_VALUE);
        C.due("23: nothing is read by it", x.count(5), 3);
    }

    private static void promise24StopsIn() {
        SureAnswers x = Checks.with("0:0-10=3,4,5", "1:0-50=20,20");
        x.ask(0, 1, 0, 10);
        x.ask(0, 2, 0, 50);
        x.ask(0, 4, 0, 0);
        x.ask(0, 1, 0, 30);
        C.due("24: blocks 0, 1, 0", x.stopsIn(0), 3);
        C.due("24: blocks 0, 1", x.stopsIn(1), 2);
        C.due("24: without rows", x.stopsIn(2), SureAnswers.NONE);
        C.due("24: stopped", x.stopsIn(3), SureAnswers.NOT_POSSIBLE);
        C.due("24: no such question", x.stopsIn(4), SureAnswers.UNKNOWN);
        C.due("24: no such question below 0", x.stopsIn(-1), SureAnswers.UNKNOWN);
        C.due("24: nothing is read by it", x.count(5), 0);
        C.due("24: the turn stays", x.count(6), 0);
        C.due("24: the question stays open", x.question(0, 4), 0);
        x.setPlan(1);
        C.due("24: 1 has 100, 50, then 0 has 30, 20", x.stopsIn(0), 4);
        C.due("24: 1 at once", x.stopsIn(1), 1);
        x.setPlan(2);
        C.due("24: 1 until that question stops, then 0", x.stopsIn(0), 3);
        x.readOn();
        C.due("24: without rows, all read", x.stopsIn(2), SureAnswers.NONE);
    }

    private static void promise25Best() {
        SureAnswers x = Checks.with("0:0-10=3,4,5", "1:0-50=20,20");
        C.due("25: no question is open", x.best(0), SureAnswers.NOT_POSSIBLE);
        C.due("25: -1", x.best(-1), SureAnswers.BAD_VALUE);
        C.due("25: 2", x.best(2), SureAnswers.BAD_VALUE);
        x.ask(0, 2, 0, 50);
        C.due("25: the plans 1 and 2 read 1 at once", x.best(0), 1);
        C.due("25: one row", x.best(1), 1);
        x.ask(0, 1, 0, 10);
        // By turn 0, 1, 0; by spread 1, 1, 0, 0; by weight 1, 0, 0.
        C.due("25: of several the lowest", x.best(0), 0);
        C.due("25: three rows", x.best(1), 3);
        x.drop(0);
        x.ask(2, 2, 0, 49);
        // The least needs the block 1 once; its upper bound is 20 behind that.
        x.readFrom(1);
        C.due("25: it stopped", x.count(2), 1);
        C.due("25: by weight 0, 0", x.best(0), 2);
        C.due("25: two rows", x.best(1), 2);
        C.due("25: the plan stays", x.count(3), 0);
        C.due("25: nothing is read by it", x.count(5), 1);
        C.due("25: no act", x.count(7), 4);
        x.ask(0, 8, 0, 0);
        C.due("25: a question without rows stays open", x.best(0), SureAnswers.NONE);
        C.due("25: so it does for the rows", x.best(1), SureAnswers.NONE);
        C.due("25: BAD_VALUE goes first", x.best(2), SureAnswers.BAD_VALUE);
        x.drop(2);
        x.stop(0);
        C.due("25: none is open", x.best(1), SureAnswers.NOT_POSSIBLE);
        C.due("25: BAD_VALUE goes first there too", x.best(2), SureAnswers.BAD_VALUE);
    }

    /** The greatest numbers of rows that the calls can tell. */
    private static void promise24And25AllRows() {
        SureAnswers x = new SureAnswers();
        for (int i = 0; i < 8; i++) {
            Checks.addBlock(x, "0:0-9=0,1,2,3,4,5,6,7,8,9,0,1,2,3,4,5");
        }
        x.ask(0, 1, 0, 0);
        C.due("24: all 128 rows", x.stopsIn(0), 128);
        C.due("25: all 128 rows, so the lowest plan", x.best(0), 0);
        C.due("25: all 128 rows", x.best(1), 128);
        C.due("25: nothing is read by it", x.count(5), 0);
        C.due("13: all 128 rows", x.readOn(), 128);
        C.due("13: the question is stopped", x.question(0, 10), 8 * 60);
    }

    private static void promise26Count() {
        SureAnswers x = Checks.with("0:0-10=3,4,5", "1:0-50=20,20");
        x.ask(0, 1, 0, 0);
        x.ask(0, 1, 0, 99);
        x.ask(0, 8, 0, 0);
        x.read(1);
        x.setPlan(2);
        int[] want = {2, 3, 2, 2, 5, 1, 1, 4, 12};
        for (int what = 0; what < want.length; what++) {
            C.due("26: count(" + what + ")", x.count(what), want[what]);
        }
        C.due("26: -1", x.count(-1), SureAnswers.BAD_VALUE);
        C.due("26: 9", x.count(9), SureAnswers.BAD_VALUE);
        C.due("26: far below", x.count(Integer.MIN_VALUE), SureAnswers.BAD_VALUE);
    }

    public static void main(String[] args) {
        promise20Block();
        promise21Value();
        promise22Answers();
        promise22Question();
        promise23Next();
        promise24StopsIn();
        promise25Best();
        promise24And25AllRows();
        promise26Count();
        C.end();
    }
}
