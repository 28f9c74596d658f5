/** Promises 11 to 14: plans, and the reading of rows. */
public final class ReadingTest {
    private static final Checks C = new Checks("ReadingTest");

    /** Reads row by row, and tells from which blocks, one digit for each. */
    private static long order(SureAnswers x, int rows) {
        long order = 0;
        for (int i = 0; i < rows; i++) {
            int block = x.next(0);
            order = 10 * order + block;
            int before = x.block(block, 4);
            C.due("12: next(1) is the row", x.next(1), before);
            C.due("12: one row", x.read(1), 1);
            C.due("12: from the block that next(0) told", x.block(block, 4), before + 1);
        }
        return order;
    }

    private static void promise11SetPlan() {
        SureAnswers x = new SureAnswers();
        C.due("11: 0 at first", x.count(3), 0);
        C.due("11: so already", x.setPlan(0), SureAnswers.NONE);
        C.due("11: from 0 to 2", x.setPlan(2), 0);
        C.due("11: it is 2", x.count(3), 2);
        C.due("11: from 2 to 1", x.setPlan(1), 2);
        C.due("11: so already", x.setPlan(1), SureAnswers.NONE);
        C.due("11: -1", x.setPlan(-1), SureAnswers.BAD_VALUE);
        C.due("11: 3", x.setPlan(3), SureAnswers.BAD_VALUE);
        C.due("11: acts", x.count(7), 2);
        x.undo();
        C.due("11: undone", x.count(3), 2);
    }

    private static void plan0ByTurn() {
        SureAnswers x = Checks.with("0:0-9=1,2,3", "1:0-9=4", "2:0-9=5,6");
        C.due("11: by turn", order(x, 4), 120);
        C.due("11: the turn of 1", x.count(6), 1);
        C.due("11: 1 has none left, so 2 is read", x.next(0), 2);
        C.due("11: it is 2, then 0", order(x, 2), 20);
        C.due("11: all were read", x.next(0), SureAnswers.NONE);
        C.due("11: the turn of 1 behind the 0", x.count(6), 1);
        // Behind the last one it is the turn of 0 at once.
        SureAnswers y = Checks.with("0:0-9=1,2", "1:0-9=4,5");
        y.read(2);
        C.due("11: the turn of 0", y.count(6), 0);
        Checks.addBlock(y, "2:0-9=7");
        C.due("11: a block that comes later waits", y.next(0), 0);
        C.due("11: then it has its turn", order(y, 3), 12);
        // Only reading by this plan changes the turn.
        SureAnswers z = Checks.with("0:0-9=1,2", "1:0-9=4,5");
        z.readFrom(0);
        C.due("14: the turn stays with readFrom", z.count(6), 0);
        z.setPlan(1);
        z.read(1);
        C.due("11: the turn stays with the plan 1", z.count(6), 0);
        z.setPlan(2);
        z.read(1);
        C.due("11: the turn stays with the plan 2", z.count(6), 0);
    }

    private static void plan1BySpread() {
        // Products at first: 3 * 9, 1 * 30, 4 * 0, 2 * 15.
        SureAnswers x = Checks.with("0:0-9=1,2,3", "0:0-30=4", "0:5-5=5,5,5,5", "0:5-20=5,6");
        x.setPlan(1);
        C.due("11: the greatest product, of several the lowest", order(x, 7), 1300302);
        C.due("11: those without a spread come last", order(x, 3), 222);
        C.due("11: all were read", x.next(0), SureAnswers.NONE);
        SureAnswers y = Checks.with("0:5-5=5", "0:7-7=7");
        y.setPlan(1);
        C.due("11: products of 0, of several the lowest", order(y, 2), 1);
    }

    private static void plan2ByWeight() {
        SureAnswers x = Checks.with("0:0-10=5,5", "1:0-50=9,9", "2:40-60=45,50", "3:1-2=1");
        x.setPlan(2);
        C.due("11: without questions the lowest", x.next(0), 0);
        x.ask(0, 1, 0, 0);
        x.ask(4, 3, 0, 0);
        C.due("20: the sum and the mean", x.block(0, 5), 20);
        C.due("20: the mean alone", x.block(1, 5), 50);
        C.due("20: no question", x.block(2, 5), 0);
        x.ask(1, 6, 45, 0);
        C.due("20: the limit is inside", x.block(2, 5), 100);
        C.due("20: so it is for the other", x.block(1, 5), 150);
        C.due("20: not its layer", x.block(0, 5), 20);
        x.ask(2, 14, 0, 0);
        // The upper bound of the least is 2: the bottoms below it are 0 and 1.
        C.due("20: least, bottom 0", x.block(1, 5), 250);
        C.due("20: least, bottom 1", x.block(3, 5), 100);
        C.due("20: least, bottom 40", x.block(2, 5), 100);
        x.ask(3, 15, 0, 0);
        // The lower bound of the greatest is 40: the tops above it are 50 and 60.
        C.due("20: greatest, top 50", x.block(1, 5), 350);
        C.due("20: greatest, top 60", x.block(2, 5), 200);
        C.due("20: greatest, top 10", x.block(0, 5), 20);
        C.due("11: the greatest weight", x.next(0), 1);
        x.stop(2);
        C.due("20: a stopped question counts no more", x.block(1, 5), 250);
        // The mean (open), least and greatest lead on; a block without rows left is left out.
        C.due("11: the weights order the reading", order(x, 3), 112);
        C.due("11: by what is read they change", x.block(2, 5), 100);
    }

    private static void plan2Edges() {
        SureAnswers x = Checks.with("0:5-9=6", "1:5-9=6", "2:4-4=4");
        x.ask(1, 1, 5, 0);
        C.due("20: the bottom is the limit", x.block(0, 5), 0);
        C.due("7: so it stops at once", x.question(0, 10), 1);
        x.ask(1, 2, 9, 0);
        C.due("20: the top is the limit", x.block(1, 5), 100);
        x.ask(1, 1, 10, 0);
        C.due("20: the top is below the limit", x.block(0, 5), 0);
        x.drop(2);
        x.drop(0);
        x.ask(2, 5, 0, 0);
        C.due("7: the least is sure", x.question(1, 10), 4);
        x.ask(2, 1, 0, 0);
        C.due("20: the bottom is below the upper bound", x.block(0, 5), 100);
        x.readFrom(0);
        C.due("20: it stopped by the row", x.block(0, 5), 0);
        x.ask(3, 3, 0, 0);
        C.due("20: the top is above the lower bound", x.block(1, 5), 200);
        C.due("20: of a block without rows to be read, too", x.block(0, 5), 100);
        x.change(0, 0, 9);
        C.due("20: the greatest is sure", x.block(1, 5), 100);
    }

    private static void weightsOfOpenQuestions() {
        SureAnswers x = Checks.with("0:0-9=6", "0:5-9=6", "0:0-4=3", "0:0-5=3");
        x.ask(1, 1, 5, 0);
        C.due("20: the limit is inside", x.block(0, 5), 100);
        C.due("20: the limit is the bottom, of an open question", x.block(1, 5), 0);
        C.due("20: the limit is above the top, of an open question", x.block(2, 5), 0);
        C.due("20: the limit is the top, of an open question", x.block(3, 5), 100);
        SureAnswers y = Checks.with("0:0-5=3", "0:5-9=6", "0:4-9=6");
        y.ask(2, 1, 0, 0);
        C.due("20: least, the bottom is the upper bound", y.block(1, 5), 0);
        C.due("20: least, the bottom is one below it", y.block(2, 5), 100);
        SureAnswers z = Checks.with("0:5-9=6", "0:0-5=3", "0:0-6=3");
        z.ask(3, 1, 0, 0);
        C.due("20: greatest, the top is the lower bound", z.block(1, 5), 0);
        C.due("20: greatest, the top is one above it", z.block(2, 5), 100);
        z.undo();
        z.keep();
        z.ask(3, 2, 0, 0);
        z.restore();
        C.due("20: no question, no weight", z.block(0, 5), 0);
        // What a weight leans on comes back with a state, too.
        y.readFrom(0);
        C.due("20: least, 3 was read", y.block(2, 5), 0);
        y.undo();
        C.due("17: the weight as it was", y.block(2, 5), 100);
        SureAnswers w = Checks.with("0:5-9=6", "0:0-6=3");
        w.ask(3, 1, 0, 0);
        w.readFrom(0);
        C.due("20: greatest, 6 was read", w.block(1, 5), 0);
        C.due("7: it is sure then", w.question(0, 10), 6);
        w.undo();
        C.due("17: the weight as it was there", w.block(1, 5), 100);
    }

    private static void promise12Read() {
        SureAnswers x = Checks.with("0:0-9=1,2,3", "1:0-9=4");
        C.due("12: 0", x.read(0), SureAnswers.BAD_VALUE);
        C.due("12: -1", x.read(-1), SureAnswers.BAD_VALUE);
        C.due("12: 129", x.read(129), SureAnswers.BAD_VALUE);
        C.due("12: none was read", x.count(5), 0);
        C.due("12: three", x.read(3), 3);
        C.due("12: two of the first", x.block(0, 4), 2);
        C.due("12: one of the other", x.block(1, 4), 1);
        C.due("12: one act for all three", x.count(7), 3);
        C.due("12: as long as there are any", x.read(128), 1);
        C.due("12: none is left", x.read(1), SureAnswers.NONE);
        C.due("12: BAD_VALUE goes ahead of NONE", x.read(0), SureAnswers.BAD_VALUE);
        C.due("12: no state is recorded by those", x.count(7), 4);
        x.undo();
        C.due("12: undone", x.count(5), 3);
        C.due("12: without blocks", new SureAnswers().read(1), SureAnswers.NONE);
        SureAnswers y = new SureAnswers();
        for (int i = 0; i < 8; i++) {
            Checks.addBlock(y, "0:0-9=0,1,2,3,4,5,6,7,8,9,0,1,2,3,4,5");
        }
        C.due("12: all 128", y.read(128), 128);
        // A question stops at the row that makes it sure, not behind the last one.
        SureAnswers z = Checks.with("0:0-10=3,4,5");
        z.ask(0, 1, 0, 20);
        z.read(3);
        C.due("12: the upper bound behind the first row", z.question(0, 9), 23);
    }

    private static void promise13ReadOn() {
        SureAnswers x = Checks.with("0:0-10=3,4,5,6", "1:0-10=1,1");
        C.due("13: no question", x.readOn(), SureAnswers.NOT_POSSIBLE);
        x.ask(0, 1, 0, 20);
        x.ask(3, 2, 0, 9);
        C.due("13: until both are stopped", x.readOn(), 3);
        C.due("13: two of the first", x.block(0, 4), 2);
        C.due("13: one of the other", x.block(1, 4), 1);
        C.due("13: none is open", x.count(2), 0);
        C.due("13: NOT_POSSIBLE then", x.readOn(), SureAnswers.NOT_POSSIBLE);
        x.undo();
        C.due("13: an act", x.count(5), 0);
        x.ask(0, 4, 0, 0);
        C.due("13: all, for a question without rows", x.readOn(), 6);
        C.due("13: it is open still", x.count(2), 1);
        C.due("13: no rows are left", x.readOn(), SureAnswers.NONE);
        x.drop(2);
        C.due("13: NOT_POSSIBLE goes ahead of NONE", x.readOn(), SureAnswers.NOT_POSSIBLE);
    }

    private static void promise14ReadFrom() {
        SureAnswers x = Checks.with("0:0-9=1,2", "1:0-9=4,7");
        C.due("14: the first row", x.readFrom(1), 4);
        C.due("14: the second row", x.readFrom(1), 7);
        C.due("14: all were read", x.readFrom(1), SureAnswers.NONE);
        C.due("14: no such block", x.readFrom(2), SureAnswers.UNKNOWN);
        C.due("14: no such block below 0", x.readFrom(-1), SureAnswers.UNKNOWN);
        C.due("14: acts", x.count(7), 4);
        C.due("14: the turn stays", x.next(0), 0);
        x.ask(0, 1, 0, 9);
        x.readFrom(0);
        C.due("14: a question stops by it", x.question(0, 10), 2);
        x.undo();
        x.undo();
        x.undo();
        C.due("14: undone", x.block(1, 4), 1);
    }

    public static void main(String[] args) {
        promise11SetPlan();
        plan0ByTurn();
        plan1BySpread();
        plan2ByWeight();
        plan2Edges();
        weightsOfOpenQuestions();
        promise12Read();
        promise13ReadOn();
        promise14ReadFrom();
        C.end();
    }
}
