/** The boundary cases of the promises 11 to 14: plans, turns, and the reading of rows. */
public final class ReadingEdgesTest {
    private static final int UNKNOWN = SureAnswers.UNKNOWN, BAD = SureAnswers.BAD_VALUE,
            NOT_POSSIBLE = SureAnswers.NOT_POSSIBLE, NONE = SureAnswers.NONE;
    private static final int MIN = Integer.MIN_VALUE, MAX = Integer.MAX_VALUE;
    private static final String EIGHT = "add 0:5-9=6,7; 7 times addBlock()";
    private static final String ALL_128 = "add 0:0-9=0,1,2,3,4,5,6,7,8,9,0,1,2,3,4,5; 7 times addBlock()";
    private static final Edges E = new Edges("ReadingEdgesTest");

    /** The blocks that are read one behind the other, a digit for each. */
    private static void order(String message, String steps, String blocks) {
        String behind = steps;
        for (int i = 0; i < blocks.length(); i++) {
            E.due(message + ", row " + (i + 1), behind, "next(0)", blocks.charAt(i) - '0');
            behind += "; read(1)";
        }
        E.due(message + ", then none", behind, "next(0)", NONE);
    }

    private static void plans() {
        for (int from = 0; from <= 2; from++) {
            String steps = "add 0:0-9=1,2; setPlan(" + from + ")";
            for (int to = 0; to <= 2; to++) {
                if (to == from) {
                    E.stays("11: the plan is " + to + " already", steps, "setPlan(" + to + ")", NONE);
                } else {
                    E.act("11: from " + from + " to " + to, steps, "setPlan(" + to + ")", from);
                    E.due("11: it is " + to + " then", steps + "; setPlan(" + to + ")", "count(3)", to);
                }
            }
            for (int bad : new int[] {-1, 3, MIN, MAX, 256, 65536, -5}) {
                E.stays("11: there is no plan " + bad, steps, "setPlan(" + bad + ")", BAD);
            }
        }
        E.stays("11: the plan is 0 at first", "", "setPlan(0)", NONE);
        E.act("11: without blocks", "", "setPlan(2)", 0);
        E.due("11: a plan that was undone is not so already", "setPlan(1); undo()", "setPlan(1)", 0);
    }

    private static void turnsGoRound() {
        E.due("12: it is the turn of 0 at first", EIGHT, "count(6)", 0);
        for (int rows = 1; rows <= 7; rows++) {
            E.due("12: then of the block behind it", EIGHT + "; read(" + rows + ")", "count(6)", rows);
        }
        E.due("12: behind the eighth it is the turn of 0", EIGHT + "; read(8)", "count(6)", 0);
        E.due("12: and of 1 again", EIGHT + "; read(9)", "count(6)", 1);
        E.due("12: and of 7 again", EIGHT + "; read(15)", "count(6)", 7);
        E.due("12: and of 0 when all was read", EIGHT + "; read(128)", "count(6)", 0);
        E.due("12: with one block it is always its turn", "add 0:5-9=6,7; read(1)", "count(6)", 0);
        E.due("12: with two it goes to and fro", "add 0:5-9=6,7; addBlock(); read(1)", "count(6)", 1);
        E.due("12: with two it goes to and fro, back", "add 0:5-9=6,7; addBlock(); read(2)", "count(6)", 0);
        order("12: eight blocks by turn", EIGHT, "0123456701234567");
        order("12: a block with more rows than the others", "add 0:0-9=1; add 0:0-9=1,2,3; add 0:0-9=1", "01211");
        order("12: the last block with more rows", "add 0:0-9=1; add 0:0-9=1,2,3", "0111");
        order("12: the first block with more rows", "add 0:0-9=1,2,3; add 0:0-9=1", "0100");
    }

    private static void turnsPassOver() {
        String three = "add 0:0-9=1,2; add 0:0-9=1,2; add 0:0-9=1,2";
        order("12: 0 was read, so it is 1", three + "; 2 times readFrom(0)", "1212");
        order("12: 1 was read, so it is passed over", three + "; 2 times readFrom(1)", "0202");
        order("12: 2 was read, so behind 1 comes 0", three + "; 2 times readFrom(2)", "0101");
        order("12: 0 and 1 were read", three + "; 2 times readFrom(0); 2 times readFrom(1)", "22");
        order("12: the turn of 2, which was read, as was 0", three + "; read(2); 2 times readFrom(2); readFrom(0)", "1");
        E.due("12: the turn is that of the block behind the one that was read", three + "; 2 times readFrom(0); read(1)",
                "count(6)", 2);
        E.due("12: the turn of a block without rows to be read stays until then", three + "; read(1); 2 times readFrom(1)",
                "count(6)", 1);
        E.due("12: behind the last one it is 0 at once, though 0 was read",
                three + "; 2 times readFrom(0); read(2)", "count(6)", 0);
        E.due("12: 0 at once behind the last one, not a block that comes later",
                "add 0:0-9=1,2; addBlock(); read(2); addBlock()", "next(0)", 0);
        E.due("12: 0 at once with a single block, not a block that comes later",
                "add 0:0-9=1,2; read(1); addBlock()", "next(0)", 0);
        E.due("12: the turn of the last one is not yet 0", "add 0:0-9=1,2; addBlock(); read(1); addBlock()", "next(0)", 1);
        E.due("12: all was read and a row comes: it is found, wherever the turn is",
                "add 0:0-9=1; addBlock(); addBlock(); read(2); readFrom(2); addRow(1, 5)", "next(0)", 1);
        E.due("12: and the turn stays until it is read",
                "add 0:0-9=1; addBlock(); addBlock(); read(2); readFrom(2); addRow(1, 5)", "count(6)", 2);
        E.due("12: from 0 on when it was left out", "add 0:0-9=1; addBlock(); read(1); readFrom(1); addRow(0, 5)",
                "next(0)", 0);
    }

    private static void turnsStay() {
        String steps = "add 0:0-9=1,2,3; add 0:0-9=4,5,6; ask(0, 1, 0, 0); read(1)";
        String[] acts = {"add 0:0-9=1", "addRow(0, 5)", "change(0, 0, 5)", "narrow(1)", "forget()", "ask(0, 1, 0, 0)",
            "setTolerance(0, 1)", "stop(0)", "drop(0)", "setPlan(1)", "readFrom(0)", "readFrom(1)", "setPlan(1); read(1)",
            "setPlan(2); read(1)", "setPlan(2); read(3)", "setPlan(1); readOn()", "setPlan(2); readOn()", "keep()",
            "keep(); read(1); restore()", "keep(); read(2); restore()", "read(1); undo()", "stopsIn(0)", "best(0)", "next(0)", "clearText()",
            "setPlan(1); best(1)", "read(0)", "read(129)"};
        for (String act : acts) {
            E.due("12: nothing else changes the turn", steps + "; " + act, "count(6)", 1);
        }
        E.due("12: so behind another plan it is still the turn of 1", steps + "; setPlan(1); read(2); setPlan(0)",
                "next(0)", 1);
        E.due("17: undo() brings the turn back", steps + "; read(1); undo()", "next(0)", 1);
        E.due("19: restore() brings the turn back", steps + "; keep(); read(2); restore()", "count(6)", 1);
        E.due("13: readOn() by turn moves it", steps + "; setTolerance(0, 0); readOn()", "count(6)", 0);
        E.due("13: readOn() by turn moves it row by row", "add 0:0-9=1,2,3; addBlock(); ask(0, 1, 0, 27); readOn()",
                "count(6)", 1);
    }

    private static void planOfProducts() {
        String plan = "; setPlan(1)";
        order("11: products alike, the lowest block", "add 0:0-9=1; add 0:0-9=1; add 0:0-9=1" + plan, "012");
        order("11: 2 * 9 and 1 * 18 are alike", "add 0:0-9=1,2; add 0:0-18=1" + plan, "010");
        order("11: 2 * 9 is less than 1 * 19", "add 0:0-9=1,2; add 0:0-19=1" + plan, "100");
        order("11: 2 * 9 is more than 1 * 17", "add 0:0-9=1,2; add 0:0-17=1" + plan, "010");
        order("11: rows that were read do not count", "add 0:0-9=1,2,3; add 0:0-10=1; 2 times readFrom(0)" + plan, "10");
        order("11: a wide block of which all was read is not read", "add 0:0-999=1; add 0:0-1=1; readFrom(0)" + plan, "1");
        order("11: products of 0, the lowest block", "add 0:5-5=5; add 0:7-7=7,7" + plan, "011");
        order("11: a product of 0 behind one of 1", "add 0:5-5=5,5; add 0:7-8=7" + plan, "100");
        order("11: it is the top less the bottom, not the top", "add 0:990-999=999; add 0:0-10=1" + plan, "10");
        order("11: a block that was narrowed", "add 0:0-9=4,5; add 0:0-9=1,2; narrow(0)" + plan, "1100");
        order("11: the widest there can be, 16 rows", "add 0:0-998=0,0,0,0,0,0,0,0,0,0,0,0,0,0,0,0; add 0:0-999=0" + plan,
                "00000000000000010");
        E.due("11: the eighth of eight", "add 0:0-9=1; 6 times addBlock(); add 0:0-10=1" + plan, "next(0)", 7);
    }

    private static void planOfWeights() {
        String plan = "; setPlan(2)";
        order("11: without questions the lowest block", "add 0:0-9=1; add 0:0-99=1; add 0:0-9=1" + plan, "012");
        order("11: weights alike, the lowest block", "add 0:0-9=1; add 0:0-9=1; ask(0, 1, 0, 0)" + plan, "01");
        order("11: one more weighs more", "add 0:0-9=1; add 0:0-10=1; ask(0, 1, 0, 0)" + plan, "10");
        order("11: a weight of 0 comes last", "add 0:0-9=1; add 1:0-9=1; ask(0, 2, 0, 0)" + plan, "10");
        order("11: how many rows there are does not weigh", "add 0:0-9=1,2,3; add 0:0-10=1; ask(0, 1, 0, 0)" + plan, "1000");
        order("11: a heavy block of which all was read is not read",
                "add 0:0-999=1; add 0:0-1=1; ask(0, 1, 0, 0); readFrom(0)" + plan, "1");
        order("11: a question that is stopped does not weigh",
                "add 0:0-9=1; add 1:0-9=1; ask(0, 2, 0, 99); ask(0, 1, 0, 0)" + plan, "01");
        order("11: as soon as it stops the weights are others",
                "add 0:0-9=1,2; add 1:0-99=1,2; ask(0, 2, 0, 99); ask(0, 1, 0, 0)" + plan, "1001");
        order("11: by the least value that was read the weights are others",
                "add 0:0-9=6; add 0:2-9=5; add 0:6-9=7; add 0:1-9=8; ask(2, 1, 0, 0)" + plan, "0132");
        order("11: by the greatest value that was read the weights are others",
                "add 0:0-9=4; add 0:0-4=4; add 0:0-5=5; ask(3, 1, 0, 0)" + plan, "021");
        E.due("11: the eighth of eight", "add 0:0-9=1; 6 times addBlock(); add 0:0-10=1; ask(0, 1, 0, 0)" + plan,
                "next(0)", 7);
    }

    private static void reading() {
        String rows = "add 0:0-9=1,2,3";
        E.act("12: the least number of rows", rows, "read(1)", 1);
        E.act("12: the greatest number of rows, there are fewer", rows, "read(128)", 3);
        E.act("12: the greatest number of rows, there are as many", ALL_128, "read(128)", 128);
        E.act("12: one less than there are", ALL_128, "read(127)", 127);
        E.act("12: as many as there are", rows, "read(3)", 3);
        E.act("12: one more than there are", rows, "read(4)", 3);
        E.act("12: the last one", rows + "; read(2)", "read(1)", 1);
        E.act("12: one more than the last one", rows + "; read(2)", "read(2)", 1);
        for (int bad : new int[] {0, -1, 129, MIN, MAX, 256 + 1, 65536 + 1}) {
            E.stays("12: " + bad + " rows", rows, "read(" + bad + ")", BAD);
            E.stays("12: BAD_VALUE comes ahead of NONE, without blocks", "", "read(" + bad + ")", BAD);
            E.stays("12: BAD_VALUE comes ahead of NONE, all was read", rows + "; read(3)", "read(" + bad + ")", BAD);
        }
        E.stays("12: all was read", rows + "; read(3)", "read(1)", NONE);
        E.stays("12: all was read, 128", rows + "; read(3)", "read(128)", NONE);
        E.stays("12: all of 128 were read", ALL_128 + "; read(128)", "read(1)", NONE);
        E.stays("12: all was read, by the plan 1", rows + "; read(3); setPlan(1)", "read(1)", NONE);
        E.stays("12: all was read, by the plan 2", rows + "; read(3); setPlan(2)", "read(1)", NONE);
        E.act("12: there are rows again behind addRow()", rows + "; read(3); addRow(0, 9)", "read(2)", 1);
        E.act("12: there are rows again behind addBlock()", rows + "; read(3); addBlock()", "read(128)", 3);
        E.act("12: there are rows again behind forget()", rows + "; read(3); forget()", "read(128)", 3);
        E.act("12: it goes on though no question is open", rows + "; ask(0, 1, 0, 99)", "read(3)", 3);
        E.act("12: it goes on when the last question stops", rows + "; ask(0, 1, 0, 18)", "read(3)", 3);
        E.due("12: it reads no more than so many", rows + "; read(2)", "value(0, 2)", NOT_POSSIBLE);
        E.due("12: it is one act, however many rows it reads", rows + "; read(3); undo()", "count(5)", 0);
    }

    private static void readingOn() {
        String rows = "add 0:0-9=1,2,3";
        E.stays("13: no question yet", rows, "readOn()", NOT_POSSIBLE);
        E.stays("13: no question any more", rows + "; ask(0, 1, 0, 0); drop(0)", "readOn()", NOT_POSSIBLE);
        E.stays("13: all questions are stopped", rows + "; 2 times ask(0, 1, 0, 99)", "readOn()", NOT_POSSIBLE);
        E.stays("13: NOT_POSSIBLE comes ahead of NONE, without blocks", "", "readOn()", NOT_POSSIBLE);
        E.stays("13: NOT_POSSIBLE comes ahead of NONE, all was read", rows + "; read(3)", "readOn()", NOT_POSSIBLE);
        E.stays("13: NOT_POSSIBLE comes ahead of NONE, all was read and stopped", rows + "; ask(0, 1, 0, 0); read(3)",
                "readOn()", NOT_POSSIBLE);
        E.stays("13: a question without rows, and no blocks", "ask(0, 1, 0, 0)", "readOn()", NONE);
        E.stays("13: a question without rows, and all was read", rows + "; read(3); ask(0, 8, 0, 0)", "readOn()", NONE);
        E.act("13: a question without rows, and one row is left", rows + "; read(2); ask(0, 8, 0, 0)", "readOn()", 1);
        E.act("13: one row is enough", rows + "; ask(0, 1, 0, 18)", "readOn()", 1);
        E.act("13: one row is not enough by one", rows + "; ask(0, 1, 0, 17)", "readOn()", 2);
        E.act("13: all rows are needed", rows + "; ask(0, 1, 0, 0)", "readOn()", 3);
        E.act("13: all 128 rows are needed", ALL_128 + "; ask(0, 1, 0, 0)", "readOn()", 128);
        E.act("13: until the last of two is stopped", rows + "; ask(0, 1, 0, 18); ask(0, 1, 0, 9)", "readOn()", 2);
        E.act("13: until the last of two is stopped, the other way", rows + "; ask(0, 1, 0, 9); ask(0, 1, 0, 18)",
                "readOn()", 2);
        E.act("13: one is stopped already", rows + "; ask(0, 1, 0, 99); ask(0, 1, 0, 18)", "readOn()", 1);
        E.act("13: all rows, as a question without rows does not stop", rows + "; ask(0, 1, 0, 18); ask(0, 8, 0, 0)",
                "readOn()", 3);
        E.due("13: it is open still", rows + "; ask(0, 1, 0, 18); ask(0, 8, 0, 0); readOn()", "count(2)", 1);
        E.act("13: rows of other layers are read, too", "add 1:0-9=1; " + rows + "; ask(0, 1, 0, 18)", "readOn()", 2);
        E.act("13: by the plan 2 they are not", "add 1:0-9=1; " + rows + "; ask(0, 1, 0, 18); setPlan(2)", "readOn()", 1);
        E.act("13: by the plan 1", "add 1:0-999=1; " + rows + "; ask(0, 1, 0, 18); setPlan(1)", "readOn()", 2);
        E.due("13: it is one act, however many rows it reads", rows + "; ask(0, 1, 0, 0); readOn(); undo()", "count(5)", 0);
    }

    private static void readingFrom() {
        String rows = "add 0:0-999=0,999,5; add 1:5-9=7";
        E.act("14: the first row, with the least value", rows, "readFrom(0)", 0);
        E.act("14: the second row, with the greatest value", rows + "; readFrom(0)", "readFrom(0)", 999);
        E.act("14: the last row", rows + "; 2 times readFrom(0)", "readFrom(0)", 5);
        E.stays("14: behind the last row", rows + "; 3 times readFrom(0)", "readFrom(0)", NONE);
        E.stays("14: all its rows were read, by the plan", rows + "; read(128)", "readFrom(0)", NONE);
        E.act("14: the last block", rows, "readFrom(1)", 7);
        E.act("14: the last block, all of the first was read", rows + "; 3 times readFrom(0)", "readFrom(1)", 7);
        E.act("14: the 16th row", ALL_128 + "; 15 times readFrom(7)", "readFrom(7)", 5);
        E.stays("14: behind the 16th row", ALL_128 + "; 16 times readFrom(7)", "readFrom(7)", NONE);
        E.act("14: there is a row again behind addRow()", rows + "; readFrom(1); addRow(1, 9)", "readFrom(1)", 9);
        E.act("14: there are rows again behind forget()", rows + "; readFrom(1); forget()", "readFrom(1)", 7);
        E.stays("14: nothing there yet", "", "readFrom(0)", UNKNOWN);
        E.stays("14: one behind the last block", rows, "readFrom(2)", UNKNOWN);
        E.stays("14: one ahead of the first block", rows, "readFrom(-1)", UNKNOWN);
        E.stays("14: one behind the last of eight", EIGHT, "readFrom(8)", UNKNOWN);
        E.stays("14: one behind the last block, all was read", rows + "; read(128)", "readFrom(2)", UNKNOWN);
        for (int far : new int[] {MIN, MAX, 256, 65536}) {
            E.stays("14: far from any block", rows, "readFrom(" + far + ")", UNKNOWN);
        }
        for (int plan = 0; plan <= 2; plan++) {
            String steps = rows + "; ask(0, 1, 0, 0); setPlan(" + plan + ")";
            E.act("14: whatever the plan is, " + plan, steps, "readFrom(1)", 7);
            E.due("14: turns stay, plan " + plan, steps + "; readFrom(1)", "count(6)", 0);
            E.due("14: turns stay, plan " + plan, steps + "; readFrom(0)", "count(6)", 0);
        }
    }

    public static void main(String[] args) {
        plans();
        turnsGoRound();
        turnsPassOver();
        turnsStay();
        planOfProducts();
        planOfWeights();
        reading();
        readingOn();
        readingFrom();
        E.end();
    }
}
