/** Promises 1 to 6: a new object, and the calls on blocks. */
public final class BlocksTest {
    private static final Checks C = new Checks("BlocksTest");

    private static void promise1NewObject() {
        SureAnswers x = new SureAnswers();
        for (int what = 0; what <= 8; what++) {
            C.due("1: count(" + what + ") of a new object", x.count(what), 0);
        }
        C.due("1: block(0, 0)", x.block(0, 0), SureAnswers.UNKNOWN);
        C.due("1: question(0, 0)", x.question(0, 0), SureAnswers.UNKNOWN);
        C.due("1: undo()", x.undo(), SureAnswers.NONE);
        C.due("1: restore()", x.restore(), SureAnswers.NONE);
        C.due("1: clearText()", x.clearText(), 0);
        SureAnswers other = Checks.with("0:1-2=1");
        C.due("1: the blocks of one object", other.count(0), 1);
        C.due("1: are not those of another", x.count(0), 0);
    }

    private static void promise2AddBlock() {
        SureAnswers x = new SureAnswers();
        C.due("2: the first one", Checks.addBlock(x, "3:0-999=0,999,10"), 0);
        C.due("2: its layer", x.block(0, 0), 3);
        C.due("2: its bottom", x.block(0, 1), 0);
        C.due("2: its top", x.block(0, 2), 999);
        C.due("2: its rows", x.block(0, 3), 3);
        C.due("2: none is read", x.block(0, 4), 0);
        C.due("2: the text stays", x.count(8), 16);
        C.due("2: so it can be added again", x.addBlock(), 1);
        C.due("2: an act", x.count(7), 2);
        x.readFrom(0);
        x.readFrom(0);
        x.readFrom(0);
        C.due("2: its first value", x.value(0, 0), 0);
        C.due("2: its second value", x.value(0, 1), 999);
        C.due("2: its third value", x.value(0, 2), 10);
        C.due("2: bottom and top 0", Checks.addBlock(new SureAnswers(), "0:0-0=0"), 0);
        C.due("2: bottom and top alike", Checks.addBlock(x, "0:7-7=7"), 2);
        C.due("2: bottom above top", Checks.addBlock(x, "0:8-7=7"), SureAnswers.BAD_VALUE);
        C.due("2: value above the top", Checks.addBlock(x, "0:5-7=5,8"), SureAnswers.BAD_VALUE);
        C.due("2: value below the bottom", Checks.addBlock(x, "0:5-7=4,5"), SureAnswers.BAD_VALUE);
        C.due("2: the last of 16 values is looked at",
                Checks.addBlock(x, "0:5-7=5,5,5,5,5,5,5,5,5,5,5,5,5,5,5,9"), SureAnswers.BAD_VALUE);
        C.due("2: nothing was added", x.count(0), 3);
        C.due("2: 16 values", Checks.addBlock(x, "0:0-9=0,1,2,3,4,5,6,7,8,9,0,1,2,3,4,5"), 3);
        C.due("2: 16 rows", x.block(3, 3), 16);
        for (int i = 4; i < 8; i++) {
            C.due("2: one more", Checks.addBlock(x, "1:1-2=2"), i);
        }
        int states = x.count(7);
        C.due("2: a ninth", Checks.addBlock(x, "1:1-2=2"), SureAnswers.FULL);
        C.due("2: BAD_VALUE goes ahead of FULL", Checks.addBlock(x, "1:1-2=3"), SureAnswers.BAD_VALUE);
        C.due("2: a fault goes ahead of both", Checks.addBlock(x, "1:3-2=3,"), -108);
        C.due("2: eight are left", x.count(0), 8);
        C.due("2: no state was recorded", x.count(7), states);
        x.undo();
        C.due("2: the latest one is that before the eighth", x.count(0), 7);
    }

    /** The fault of a text, by what addBlock() answers. */
    private static void fault(String text, int want) {
        SureAnswers x = new SureAnswers();
        C.due("2: the fault of \"" + text + "\"", Checks.addBlock(x, text), -100 - want);
        C.due("2: nothing is added by \"" + text + "\"", x.count(0) + x.count(7), 0);
    }

    private static void promise2Faults() {
        String whole = "2:10-200=10,200,99";
        for (int n = 0; n <= 9; n++) {
            fault(whole.substring(0, n), n);
        }
        fault("2:10-200=10,", 12);
        fault("4:1-2=1", 0);
        fault("/:1-2=1", 0);
        fault(" 0:1-2=1", 0);
        fault("00:1-2=1", 1);
        fault("0;1-2=1", 1);
        fault("0:-2=1", 2);
        fault("0:a-2=1", 2);
        fault("0:01-2=1", 3);
        fault("0:1000-2=1", 5);
        fault("0:100:2=1", 5);
        fault("0:1=2=1", 3);
        fault("0:1-=1", 4);
        fault("0:1-00=1", 5);
        fault("0:1-9999=1", 7);
        fault("0:1-2-1", 5);
        fault("0:1-2=,", 6);
        fault("0:1-2=01", 7);
        fault("0:1-2=1,,1", 8);
        fault("0:1-2=1 ", 7);
        fault("0:1-999=1000", 11);
        fault("0:1-2=1,0,00", 11);
        fault("0:1-9=1,1,1,1,1,1,1,1,1,1,1,1,1,1,1,1,", 37);
        fault("0:1-9=1,1,1,1,1,1,1,1,1,1,1,1,1,1,1,1,1", 37);
        fault("0:1-9=1,1,1,1,1,1,1,1,1,1,1,1,1,1,1,1x", 37);
        fault("0:1-2=\u0661", 6);
        fault("\u0130:1-2=1", 0);
        fault("0:1-2=1\u2c2c1", 7);
        StringBuilder long80 = new StringBuilder("0:0-999=999");
        while (long80.length() < 71) {
            long80.append(",999");
        }
        C.due("2: the longest text", Checks.addBlock(new SureAnswers(), long80.toString()), 0);
        fault(long80 + "999999999", 71);
    }

    private static void promise3AddRow() {
        SureAnswers x = Checks.with("0:5-9=6", "1:0-0=0");
        x.read(1);
        C.due("3: behind those that are", x.addRow(0, 5), 2);
        C.due("3: the top is allowed", x.addRow(0, 9), 3);
        C.due("3: it is not read", x.block(0, 4), 1);
        C.due("3: two blocks and a read before them, then two acts", x.count(7), 4);
        C.due("3: read next", x.readFrom(0), 5);
        C.due("3: and the next", x.readFrom(0), 9);
        C.due("3: no such block", x.addRow(2, 5), SureAnswers.UNKNOWN);
        C.due("3: no such block below 0", x.addRow(-1, 5), SureAnswers.UNKNOWN);
        C.due("3: UNKNOWN goes first", x.addRow(2, -5), SureAnswers.UNKNOWN);
        C.due("3: below the bottom", x.addRow(0, 4), SureAnswers.BAD_VALUE);
        C.due("3: above the top", x.addRow(0, 10), SureAnswers.BAD_VALUE);
        for (int rows = 4; rows <= 16; rows++) {
            C.due("3: one more", x.addRow(0, 7), rows);
        }
        C.due("3: a 17th", x.addRow(0, 7), SureAnswers.FULL);
        C.due("3: BAD_VALUE goes ahead of FULL", x.addRow(0, 4), SureAnswers.BAD_VALUE);
        C.due("3: 16 rows", x.block(0, 3), 16);
        x.undo();
        C.due("3: an act", x.block(0, 3), 15);
        // An open question grows wider by a row, one that stopped stays.
        SureAnswers y = Checks.with("0:0-10=4,6");
        y.ask(0, 1, 0, 10);
        y.ask(0, 1, 0, 20);
        y.addRow(0, 1);
        C.due("3: the width of an open question", y.question(0, 6), 30);
        C.due("3: what was kept stays", y.question(1, 9), 20);
        C.due("3: a question gets its first rows", firstRows(), 1);
        SureAnswers z = Checks.with("0:0-100=50", "0:0-0=0");
        z.ask(4, 1, 0, 4000);
        C.due("3: the width of the mean is 5000", z.question(0, 4), 0);
        z.addRow(1, 0);
        C.due("3: it is 3333 with one row more, so it stops", z.question(0, 9), 3333);
    }

    /** Whether a question without rows stops as a block gives it a sure answer. */
    private static int firstRows() {
        SureAnswers x = new SureAnswers();
        x.ask(0, 1, 0, 0);
        Checks.addBlock(x, "0:3-3=3");
        return x.question(0, 4);
    }

    private static void promise4Change() {
        SureAnswers x = Checks.with("0:1-9=2,3", "1:0-0=0");
        x.readFrom(0);
        C.due("4: a row that was read", x.change(0, 0, 9), 1);
        C.due("4: its value then", x.value(0, 0), 9);
        C.due("4: the sum of what was read", x.block(0, 6), 9);
        C.due("4: a row that was not", x.change(0, 1, 1), 0);
        C.due("4: it is not read by that", x.value(0, 1), SureAnswers.NOT_POSSIBLE);
        C.due("4: its value then", x.readFrom(0), 1);
        C.due("4: the same value", x.change(0, 1, 1), SureAnswers.NONE);
        C.due("4: no such block", x.change(2, 0, 1), SureAnswers.UNKNOWN);
        C.due("4: no such block below 0", x.change(-1, 0, 1), SureAnswers.UNKNOWN);
        C.due("4: no such row", x.change(0, 2, 1), SureAnswers.UNKNOWN);
        C.due("4: no such row below 0", x.change(0, -1, 1), SureAnswers.UNKNOWN);
        C.due("4: UNKNOWN goes first", x.change(0, 2, 10), SureAnswers.UNKNOWN);
        C.due("4: above the top", x.change(0, 0, 10), SureAnswers.BAD_VALUE);
        C.due("4: below the bottom", x.change(0, 0, 0), SureAnswers.BAD_VALUE);
        x.clearText();
        C.due("4: states before", x.count(7), 4);
        x.change(0, 0, 5);
        x.undo();
        C.due("4: an act", x.value(0, 0), 9);
        // What was read moves the bounds; a least or greatest value may go back.
        SureAnswers y = Checks.with("0:0-9=2,8,5,5");
        y.ask(2, 1, 0, 0);
        y.ask(3, 1, 0, 0);
        y.readFrom(0);
        y.readFrom(0);
        C.due("4: upper bound of the least", y.question(0, 6), 2);
        C.due("4: lower bound of the greatest", y.question(1, 5), 8);
        y.change(0, 0, 6);
        y.change(0, 1, 7);
        C.due("4: upper bound of the least then", y.question(0, 6), 6);
        C.due("4: lower bound of the greatest then", y.question(1, 5), 7);
        y.change(0, 0, 0);
        C.due("4: the least stops at the bottom", y.question(0, 10), 0);
        y.change(0, 0, 3);
        C.due("4: the final answer stays", y.question(0, 10), 0);
        C.due("4: the upper bound by now does not", y.question(0, 6), 3);
    }

    private static void promise5Narrow() {
        SureAnswers x = Checks.with("0:10-90=30,20,50", "1:4-6=6,4");
        x.ask(0, 1, 0, 0);
        x.ask(0, 1, 0, 90);
        x.readFrom(0);
        C.due("5: its width less 30", x.narrow(0), 50);
        C.due("5: bottom", x.block(0, 1), 20);
        C.due("5: top", x.block(0, 2), 50);
        C.due("5: nothing is read by it", x.block(0, 4), 1);
        C.due("5: lower bound", x.question(0, 5), 70);
        C.due("5: upper bound", x.question(0, 6), 130);
        C.due("5: a question stops by it", x.question(1, 4), 1);
        C.due("5: its upper bound of then", x.question(1, 9), 130);
        C.due("5: states before", x.count(7), 4);
        C.due("5: it stays", x.narrow(0), SureAnswers.NONE);
        C.due("5: it stays from the beginning", x.narrow(1), SureAnswers.NONE);
        C.due("5: no such block", x.narrow(2), SureAnswers.UNKNOWN);
        C.due("5: no such block below 0", x.narrow(-1), SureAnswers.UNKNOWN);
        C.due("5: a value outside is bad then", x.addRow(0, 51), SureAnswers.BAD_VALUE);
        x.undo();
        C.due("5: an act", x.block(0, 2), 90);
        C.due("5: the question is open again", x.question(1, 4), 0);
        SureAnswers y = Checks.with("0:0-999=0,5", "0:0-999=5,999");
        C.due("5: the top alone", y.narrow(0), 994);
        C.due("5: the bottom alone", y.narrow(1), 5);
        SureAnswers z = Checks.with("0:0-9=0,0");
        C.due("5: values of 0 alone", z.narrow(0), 9);
        C.due("5: the top is 0 then", z.block(0, 2), 0);
    }

    private static void promise6Forget() {
        SureAnswers x = Checks.with("0:0-10=4,6", "1:0-10=1");
        C.due("6: none was read", x.forget(), SureAnswers.NONE);
        C.due("6: NONE records nothing", x.count(7), 2);
        x.ask(0, 1, 0, 10);
        x.ask(0, 1, 0, 0);
        x.read(2);
        C.due("6: stopped by reading", x.question(0, 4), 1);
        C.due("6: the turn", x.count(6), 0);
        x.readFrom(0);
        x.read(1);
        C.due("6: three were read", x.forget(), 3);
        C.due("6: no row is read then", x.count(5), 0);
        C.due("6: nor its value", x.value(0, 0), SureAnswers.NOT_POSSIBLE);
        C.due("6: nor the sum", x.block(0, 6), 0);
        C.due("6: the question stays stopped", x.question(0, 4), 1);
        C.due("6: with what was kept", x.question(0, 9), 14);
        C.due("6: its bounds by now", x.question(0, 6), 20);
        C.due("6: rows are read from the first one", x.readFrom(0), 4);
        x.undo();
        x.undo();
        C.due("6: an act", x.count(5), 3);
        SureAnswers y = Checks.with("0:0-10=4", "1:0-10=1");
        y.read(1);
        y.forget();
        C.due("6: the turn stays", y.count(6), 1);
        SureAnswers z = Checks.with("0:0-5=3,3", "0:4-9=6");
        z.ask(2, 1, 0, 0);
        z.readFrom(0);
        C.due("6: 4 is above the 3 that was read", z.block(1, 5), 0);
        z.forget();
        C.due("6: the weight is as if nothing had been read", z.block(1, 5), 100);
    }

    public static void main(String[] args) {
        promise1NewObject();
        promise2AddBlock();
        promise2Faults();
        promise3AddRow();
        promise4Change();
        promise5Narrow();
        promise6Forget();
        C.end();
    }
}
