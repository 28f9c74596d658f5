/** The boundary cases of the promises 17 to 19: undo(), keep() and restore(). */
public final class HistoryEdgesTest {
    private static final int NONE = SureAnswers.NONE;
    private static final String WORLD = "add 0:0-99=10,20,30; add 1:2-9=5,5; ask(0, 1, 0, 0); ask(2, 2, 0, 3);"
            + " ask(1, 1, 15, 0); ask(3, 1, 0, 0); read(3)";
    private static final String ALL_128 = "add 0:0-9=0,1,2,3,4,5,6,7,8,9,0,1,2,3,4,5; 7 times addBlock()";
    private static final String[] ACTS = {"addBlock()", "addRow(0, 99)", "change(0, 0, 40)", "change(0, 2, 40)",
        "narrow(0)", "forget()", "ask(1, 3, 5, 0)", "setTolerance(0, 7)", "setTolerance(0, 99999)", "stop(0)", "drop(0)",
        "drop(1)", "setPlan(1)", "setPlan(2)", "read(1)", "read(128)", "readOn()", "readFrom(0)", "readFrom(1)"};
    private static final Edges E = new Edges("HistoryEdgesTest");

    private static void eachAct() {
        for (String act : ACTS) {
            E.undoes("17: " + act + " is an act", WORLD, act);
            E.undoes("17: " + act + " is an act, ahead of it there are four", WORLD + "; setPlan(1); setPlan(0)", act);
            E.undoes("17: " + act + " is an act, behind an undo", WORLD + "; setPlan(1); undo()", act);
            E.undoes("17: " + act + " is an act, behind four undo",
                    WORLD + "; setPlan(1); keep(); 4 times undo(); 2 times drop(0); " + WORLD, act);
            E.undoes("17: " + act + " is an act, the snapshot stays", "setPlan(2); keep(); setPlan(0); " + WORLD, act);
        }
        E.undoes("17: restore() is an act", "setPlan(2); keep(); setPlan(0); " + WORLD, "restore()");
        E.undoes("17: restore() is an act, of the state that is", WORLD + "; keep()", "restore()");
        E.undoes("17: the first act", "", "setPlan(1)");
        E.undoes("17: the first act, asked", "", "ask(0, 1, 0, 0)");
        E.undoes("17: the first act, a block", "text 0:1-2=1", "addBlock()");
    }

    private static void whatIsNoAct() {
        String steps = WORLD + "; clearText()";
        E.ofText("15: type() is no act", steps, "type(48)", 1);
        E.ofText("16: clearText() is no act", steps, "clearText()", 0);
        E.keeps("18: keep() is no act", steps, 3);
        String[] calls = {"block(0, 5)", "value(0, 0)", "question(0, 7)", "next(0)", "next(1)", "stopsIn(0)", "best(0)",
            "best(1)", "count(7)"};
        for (String call : calls) {
            E.stays("20: " + call + " is no act", steps, call, Script.of(steps).run(call));
        }
        E.due("17: undo() is no act, so a second one goes on back", "setPlan(1); setPlan(2); setPlan(0); 2 times undo()",
                "count(3)", 1);
        E.due("17: and does not bring back what was undone", "setPlan(1); setPlan(2); 2 times undo()", "count(3)", 0);
    }

    private static void statesFromNoneToFull() {
        E.stays("17: NONE, nothing there yet", "", "undo()", NONE);
        E.stays("17: NONE, behind what was refused", "addBlock(); readOn(); setPlan(3); setPlan(0)", "undo()", NONE);
        E.stays("17: NONE, behind what is no act", "type(48); clearText(); keep(); count(0)", "undo()", NONE);
        String plans = "setPlan(1); setPlan(2); setPlan(1); setPlan(2); setPlan(1); setPlan(2); setPlan(1); setPlan(2); setPlan(1)";
        for (int acts = 1; acts <= 9; acts++) {
            String steps = plans.substring(0, acts * 12 - 2);
            int states = Math.min(4, acts);
            E.due("17: the states behind " + acts + " acts", steps, "count(7)", states);
            E.due("17: those that are left of " + acts, steps, "undo()", states - 1);
            E.due("17: none is left of " + acts, steps + "; " + (states - 1) + " times undo()", "undo()", 0);
            E.stays("17: NONE behind the last of " + acts, steps + "; " + states + " times undo()", "undo()", NONE);
        }
        E.due("17: behind four acts the fourth undo() brings the first state",
                "4 times ask(0, 1, 0, 0); 4 times undo()", "count(1)", 0);
        E.due("17: behind five acts the oldest state is dropped", "5 times ask(0, 1, 0, 0); 4 times undo()", "count(1)", 1);
        E.due("17: behind five acts a fifth undo() changes nothing", "5 times ask(0, 1, 0, 0); 5 times undo()",
                "count(1)", 1);
        E.due("17: behind six acts two are dropped", "6 times ask(0, 1, 0, 0); 4 times undo()", "count(1)", 2);
    }

    /** The history is full and goes round; what is brought back is told by how many questions there are. */
    private static void statesGoRound() {
        String full = "5 times ask(0, 1, 0, 0)";
        for (int undone = 1; undone <= 4; undone++) {
            String steps = full + "; " + undone + " times undo()";
            E.due("17: one less by each undo()", steps, "count(1)", 5 - undone);
            E.due("17: and an act records behind those that are left", steps + "; setPlan(1)", "count(7)", 5 - undone);
            E.due("17: it is undone", steps + "; setPlan(1); undo()", "count(3)", 0);
            E.due("17: and the one before it is still there", steps + "; setPlan(1); undo()", "count(1)", 5 - undone);
        }
        E.due("17: five acts, two undo, three acts, four undo",
                full + "; 2 times undo(); setPlan(1); setPlan(2); setPlan(1); 4 times undo()", "count(1)", 2);
        E.due("17: they came at once behind the oldest that was left",
                full + "; 2 times undo(); setPlan(1); setPlan(2); setPlan(1); 3 times undo()", "count(1)", 3);
        E.due("17: nine acts by way of drop()",
                full + "; 4 times drop(0); 4 times undo()", "count(1)", 5);
        E.due("17: again and again round", full + "; 4 times drop(0); 4 times ask(0, 1, 0, 0); 4 times undo()", "count(1)", 1);
        E.due("17: a state that was brought back and left again is brought back once more",
                "setPlan(1); ask(0, 1, 0, 0); undo(); ask(0, 1, 0, 0); undo()", "count(1)", 0);
    }

    private static void whatIsBroughtBack() {
        E.due("17: a question that stopped is open again", "add 0:0-9=1,2; ask(0, 1, 0, 9); read(1); undo()", "question(0, 4)", 0);
        E.due("17: and can stop again", "add 0:0-9=1,2; ask(0, 1, 0, 9); read(1); undo(); read(1)", "question(0, 10)", 2);
        E.due("17: one that was stopped by a word is open again", "add 0:0-9=1,2; ask(0, 1, 0, 0); stop(0); undo()",
                "stop(0)", 8);
        E.due("17: one that was dropped is there again, stopped", "add 0:0-9=1,2; ask(0, 1, 0, 0); stop(0); drop(0); undo()",
                "question(0, 10)", 8);
        E.due("17: those behind it are at their places", "2 times ask(0, 1, 0, 0); ask(4, 2, 0, 9); drop(1); undo()",
                "question(2, 3)", 9);
        E.due("17: rows are not read again", "add 0:0-9=1,2; read(2); undo()", "count(5)", 0);
        E.due("17: a row that was not read has its old value", "add 0:0-9=1,2; change(0, 0, 5); undo()", "readFrom(0)", 1);
        E.due("17: a bottom is as it was", "add 0:0-9=1,2; narrow(0); undo()", "block(0, 1)", 0);
        E.due("17: a row that was added is gone", "add 0:0-9=1,2; addRow(0, 3); undo()", "block(0, 3)", 2);
        E.due("17: a block that was added is gone", "add 0:0-9=1,2; undo()", "block(0, 3)", SureAnswers.UNKNOWN);
        E.due("17: the plan", "setPlan(2); setPlan(1); undo()", "count(3)", 2);
        E.due("17: not the text", "text 0:1-2=1; addBlock(); clearText(); undo()", "count(8)", 0);
        E.due("17: not the snapshot", "setPlan(2); keep(); undo(); restore()", "count(3)", 2);
        E.due("17: not that there was no snapshot", "setPlan(1); keep(); 1 times undo()", "restore()", 0);
    }

    private static void whatIsBroughtBackOfReading() {
        String least = "add 0:2-9=5,3; ask(2, 1, 0, 0); read(1); ";
        String greatest = "add 0:2-9=5,8; ask(3, 1, 0, 0); read(1); ";
        E.due("17: the least value that was read", least + "read(1); undo()", "question(0, 6)", 5);
        E.due("17: the least value that was read, changed", least + "change(0, 0, 4); undo()", "question(0, 6)", 5);
        E.due("17: the least value that was read, forgotten", least + "forget(); undo()", "question(0, 6)", 5);
        E.due("17: the greatest value that was read", greatest + "read(1); undo()", "question(0, 5)", 5);
        E.due("17: the greatest value that was read, changed", greatest + "change(0, 0, 6); undo()", "question(0, 5)", 5);
        E.due("17: the greatest value that was read, forgotten", greatest + "forget(); undo()", "question(0, 5)", 5);
        E.due("17: the sum of the values that were read", least + "read(1); undo()", "block(0, 6)", 5);
        E.due("17: the limit of a question", "ask(1, 1, 7, 0); ask(1, 1, 8, 0); drop(0); undo()", "question(0, 2)", 7);
        E.due("19: the least value that was read", least + "keep(); read(1); restore()", "question(0, 6)", 5);
        E.due("19: the greatest value that was read", greatest + "keep(); read(1); restore()", "question(0, 5)", 5);
        E.due("19: the limit of a question", "ask(1, 1, 7, 0); keep(); drop(0); ask(1, 1, 8, 0); restore()",
                "question(0, 2)", 7);
    }

    private static void snapshots() {
        E.keeps("18: of a new object", "", 0);
        E.keeps("18: nothing was read", "add 0:0-9=1,2", 0);
        E.keeps("18: one row was read", "add 0:0-9=1,2; read(1)", 1);
        E.keeps("18: all 128 rows were read", ALL_128 + "; read(128)", 128);
        E.keeps("18: a full object", ALL_128 + "; 6 times ask(4, 1, 0, 0); setPlan(2); read(100)", 100);
        E.keeps("18: the rows of all blocks", WORLD, 3);
        E.keeps("18: the same once more", WORLD + "; keep()", 3);
        E.keeps("18: in place of the one that was", WORLD + "; keep(); read(1)", 4);
        E.keeps("18: of fewer rows in place of one of more", WORLD + "; keep(); forget()", 0);
        E.keeps("18: of fewer blocks in place of one of more", "add 0:0-9=1,2; addBlock(); keep(); undo()", 0);
        E.keeps("18: behind four states", WORLD + "; setPlan(1); setPlan(2)", 3);
        E.keeps("18: behind undo()", WORLD + "; undo()", 0);
        E.keeps("18: behind restore()", WORLD + "; keep(); read(1); restore()", 3);
    }

    private static void restored() {
        E.stays("19: NONE, nothing there yet", "", "restore()", NONE);
        E.stays("19: NONE without a snapshot", WORLD, "restore()", NONE);
        E.stays("19: NONE without a snapshot, behind undo()", WORLD + "; undo()", "restore()", NONE);
        E.act("19: the snapshot of a new object", "keep(); " + WORLD, "restore()", 0);
        E.due("19: all blocks are gone by it", "keep(); " + WORLD + "; restore()", "count(0)", 0);
        E.due("19: all questions are gone by it", "keep(); " + WORLD + "; restore()", "count(1)", 0);
        E.act("19: nothing was read then", "add 0:0-9=1,2; keep(); read(2)", "restore()", 0);
        E.act("19: one row was read then", "add 0:0-9=1,2; read(1); keep(); read(1)", "restore()", 1);
        E.act("19: all 128 rows were read then", ALL_128 + "; read(128); keep(); forget()", "restore()", 128);
        E.act("19: it is an act though the state is the same", WORLD + "; keep()", "restore()", 3);
        E.act("19: behind four states", WORLD + "; keep(); setPlan(1); setPlan(2)", "restore()", 3);
        E.act("19: it stays, so again", WORLD + "; keep(); read(1); restore(); read(2)", "restore()", 3);
        E.act("19: it stays behind undo()", WORLD + "; keep(); 4 times undo()", "restore()", 3);
        E.act("19: it stays behind an undo() of restore()", WORLD + "; keep(); read(1); restore(); undo()", "restore()", 3);
        E.act("19: the later one", WORLD + "; keep(); read(1); keep(); forget()", "restore()", 4);
        E.due("19: what is done behind restore() does not change the snapshot",
                WORLD + "; keep(); restore(); change(0, 0, 77); drop(0); narrow(1); restore()", "value(0, 0)", 10);
        E.due("19: the question is there again", WORLD + "; keep(); restore(); drop(0); restore()", "count(1)", 4);
    }

    private static void whatIsRestored() {
        String steps = WORLD + "; setPlan(2); keep(); ";
        E.due("19: the values that were read", steps + "change(0, 0, 99); restore()", "value(0, 0)", 10);
        E.due("19: the values that were not", steps + "change(0, 2, 99); restore(); setPlan(0); readFrom(0)", "count(5)", 4);
        E.due("19: the values that were not, as they were", steps + "change(0, 2, 99); restore()", "readFrom(0)", 30);
        E.due("19: how many rows there are", steps + "addRow(0, 99); restore()", "block(0, 3)", 3);
        E.due("19: how many blocks there are", steps + "addBlock(); restore()", "count(0)", 2);
        E.due("19: bottoms", steps + "narrow(0); restore()", "block(0, 1)", 0);
        E.due("19: tops", steps + "narrow(0); restore()", "block(0, 2)", 99);
        E.due("19: questions that were open", steps + "stop(0); restore()", "question(0, 4)", 0);
        E.due("19: questions that were stopped", steps + "drop(1); restore()", "question(1, 4)", 1);
        E.due("19: with their final answer", steps + "drop(1); forget(); restore()", "question(1, 10)", 5);
        E.due("19: tolerances", steps + "setTolerance(0, 1); restore()", "question(0, 3)", 0);
        E.due("19: the plan", steps + "setPlan(1); restore()", "count(3)", 2);
        E.due("19: the turn", steps + "setPlan(0); read(2); restore()", "count(6)", 1);
        E.due("19: not the text", steps + "clearText(); restore()", "count(8)", 0);
        E.due("19: not the history", steps + "4 times undo(); restore()", "count(7)", 1);
    }

    public static void main(String[] args) {
        eachAct();
        whatIsNoAct();
        statesFromNoneToFull();
        statesGoRound();
        whatIsBroughtBack();
        whatIsBroughtBackOfReading();
        snapshots();
        restored();
        whatIsRestored();
        E.end();
    }
}
