/** The boundary cases of the promises 1 to 6: a new object, blocks and their rows. */
public final class BlockEdgesTest {
    private static final int UNKNOWN = SureAnswers.UNKNOWN, BAD = SureAnswers.BAD_VALUE, FULL = SureAnswers.FULL,
            NOT_POSSIBLE = SureAnswers.NOT_POSSIBLE, NONE = SureAnswers.NONE;
    private static final int MIN = Integer.MIN_VALUE, MAX = Integer.MAX_VALUE;
    private static final String EIGHT = "add 0:5-9=6; 7 times addBlock()";
    private static final String SIXTEEN = "add 0:0-9=0,1,2,3,4,5,6,7,8,9,0,1,2,3,4,5";
    private static final Edges E = new Edges("BlockEdgesTest");

    private static void newObjectTells() {
        for (int what = 0; what <= 8; what++) {
            E.stays("1: a new object has nothing", "", "count(" + what + ")", 0);
        }
        for (int what = 0; what <= 6; what++) {
            E.stays("1: a new object has no block", "", "block(0, " + what + ")", UNKNOWN);
        }
        for (int what = 0; what <= 12; what++) {
            E.stays("1: a new object has no question", "", "question(0, " + what + ")", UNKNOWN);
        }
        E.stays("1: a new object has no value", "", "value(0, 0)", UNKNOWN);
        E.stays("1: nothing is next", "", "next(0)", NONE);
        E.stays("1: nothing is next", "", "next(1)", NONE);
        E.stays("1: nothing stops", "", "stopsIn(0)", UNKNOWN);
        E.stays("1: no plan is best", "", "best(0)", NOT_POSSIBLE);
        E.stays("1: no plan is best", "", "best(1)", NOT_POSSIBLE);
    }

    private static void newObjectRefuses() {
        E.stays("1: the text is empty at first", "", "addBlock()", -100);
        E.stays("1: no block to grow", "", "addRow(0, 0)", UNKNOWN);
        E.stays("1: no row to change", "", "change(0, 0, 0)", UNKNOWN);
        E.stays("1: no block to narrow", "", "narrow(0)", UNKNOWN);
        E.stays("1: nothing to forget", "", "forget()", NONE);
        E.stays("1: no tolerance to set", "", "setTolerance(0, 0)", UNKNOWN);
        E.stays("1: nothing to stop", "", "stop(0)", UNKNOWN);
        E.stays("1: nothing to drop", "", "drop(0)", UNKNOWN);
        E.stays("1: the plan is 0 at first", "", "setPlan(0)", NONE);
        E.stays("1: nothing to read", "", "read(1)", NONE);
        E.stays("1: nothing to read, 128", "", "read(128)", NONE);
        E.stays("1: no question is open", "", "readOn()", NOT_POSSIBLE);
        E.stays("1: no block to read from", "", "readFrom(0)", UNKNOWN);
        E.stays("1: the text is empty", "", "clearText()", 0);
        E.stays("1: the history is empty", "", "undo()", NONE);
        E.stays("1: the snapshot is empty", "", "restore()", NONE);
    }

    private static void newObjectTakes() {
        E.act("1: the first act, asked", "", "ask(0, 1, 0, 0)", 0);
        E.act("1: the first act, a plan", "", "setPlan(1)", 0);
        E.keeps("1: a snapshot of nothing", "", 0);
        E.ofText("1: the first character", "", "type(48)", 1);
    }

    private static void blocksFromNoneToFull() {
        E.act("2: nothing there yet, the first block", "text 0:5-9=6", "addBlock()", 0);
        E.act("2: the eighth block is taken", "add 0:5-9=6; 6 times addBlock()", "addBlock()", 7);
        E.stays("2: the ninth block is not", EIGHT, "addBlock()", FULL);
        E.stays("2: the ninth block is not, another text", EIGHT + "; text 3:0-999=0", "addBlock()", FULL);
        E.act("2: there is room again behind an undo", EIGHT + "; undo()", "addBlock()", 7);
        E.due("2: the text stays", "add 0:5-9=6", "count(8)", 7);
        E.due("2: it has its layer, behind eight of another", "add 0:5-9=6; 6 times addBlock(); add 3:1-2=2",
                "block(7, 0)", 3);
    }

    private static void blocksOrderOfErrors() {
        E.stays("2: a fault comes ahead of BAD_VALUE, bottom above top", "text 0:9-5=7,", "addBlock()", -108);
        E.stays("2: a fault comes ahead of BAD_VALUE, a value outside", "text 0:5-9=4x", "addBlock()", -107);
        E.stays("2: a fault comes ahead of FULL", EIGHT + "; text 0:5-9=", "addBlock()", -106);
        E.stays("2: a fault comes ahead of both", EIGHT + "; text 0:9-5=4,", "addBlock()", -108);
        E.stays("2: BAD_VALUE comes ahead of FULL, bottom above top", EIGHT + "; text 0:9-5=7", "addBlock()", BAD);
        E.stays("2: BAD_VALUE comes ahead of FULL, a value outside", EIGHT + "; text 0:5-9=4", "addBlock()", BAD);
    }

    private static void bottomsAndTops() {
        E.act("2: the least bottom and the least top", "text 0:0-0=0", "addBlock()", 0);
        E.act("2: the greatest bottom and the greatest top", "text 0:999-999=999", "addBlock()", 0);
        E.act("2: the least bottom, the greatest top", "text 0:0-999=0,999", "addBlock()", 0);
        E.act("2: the bottom is the top", "text 0:7-7=7", "addBlock()", 0);
        E.stays("2: the bottom is one above the top", "text 0:8-7=7", "addBlock()", BAD);
        E.stays("2: the bottom is one above the top, which is 0", "text 0:1-0=0", "addBlock()", BAD);
        E.stays("2: the bottom is one above the top, 999", "text 0:999-998=999", "addBlock()", BAD);
        E.stays("2: the bottom is far above the top", "text 0:999-0=5", "addBlock()", BAD);
        E.stays("2: numbers are told by their value, not their first digit", "text 0:10-9=9", "addBlock()", BAD);
        E.act("2: numbers of one, two and three digits", "text 0:9-100=10", "addBlock()", 0);
        E.due("2: the bottom 999 is told", "add 0:999-999=999", "block(0, 1)", 999);
        E.due("2: the top 999 is told", "add 0:0-999=5", "block(0, 2)", 999);
    }

    private static void valuesOfTexts() {
        E.act("2: a value that is the bottom", "text 0:5-9=5", "addBlock()", 0);
        E.act("2: a value that is the top", "text 0:5-9=9", "addBlock()", 0);
        E.stays("2: a value one below the bottom", "text 0:5-9=4", "addBlock()", BAD);
        E.stays("2: a value one above the top", "text 0:5-9=10", "addBlock()", BAD);
        E.stays("2: a value below a bottom of 1", "text 0:1-9=0", "addBlock()", BAD);
        E.stays("2: a value above a top of 998", "text 0:1-998=999", "addBlock()", BAD);
        E.stays("2: the first value is one below", "text 0:5-9=4,5,9", "addBlock()", BAD);
        E.stays("2: the middle value is one above", "text 0:5-9=5,10,9", "addBlock()", BAD);
        E.stays("2: the last value is one below", "text 0:5-9=5,9,4", "addBlock()", BAD);
        E.stays("2: the 16th value is one above", "text 0:5-9=5,5,5,5,5,5,5,5,5,5,5,5,5,5,5,10", "addBlock()", BAD);
        E.act("2: the 16th value is the top", "text 0:5-9=5,5,5,5,5,5,5,5,5,5,5,5,5,5,5,9", "addBlock()", 0);
        E.due("2: values of a text that was refused do not stay", "add 0:5-9=5,9,4; add 0:5-9=6", "block(0, 3)", 1);
        E.due("2: and its 16th one is read", "add 0:5-9=5,5,5,5,5,5,5,5,5,5,5,5,5,5,5,9; 15 times readFrom(0)",
                "readFrom(0)", 9);
    }

    private static void rowsOfTexts() {
        E.due("2: one row", "add 0:5-9=6", "block(0, 3)", 1);
        E.due("2: 15 rows", "add 0:5-9=5,5,5,5,5,5,5,5,5,5,5,5,5,5,5", "block(0, 3)", 15);
        E.due("2: 16 rows", SIXTEEN, "block(0, 3)", 16);
        E.due("2: none is read at first", SIXTEEN, "block(0, 4)", 0);
        E.due("2: the first row is not read", SIXTEEN, "value(0, 0)", NOT_POSSIBLE);
        E.due("2: the first row is read first", "add 0:5-9=9,5,7", "readFrom(0)", 9);
        E.due("2: the second row is read next", "add 0:5-9=9,5,7; readFrom(0)", "readFrom(0)", 5);
        E.due("2: the last row is read last", "add 0:5-9=9,5,7; 2 times readFrom(0)", "readFrom(0)", 7);
        E.due("2: behind all were read, a new block is not read", "add 0:5-9=9,5,7; read(3); addBlock()",
                "block(1, 4)", 0);
    }

    private static void rowsFromOneToFull() {
        E.act("3: a second row", "add 0:5-9=6", "addRow(0, 7)", 2);
        E.act("3: the 16th row is taken", "add 0:5-9=5,5,5,5,5,5,5,5,5,5,5,5,5,5,5", "addRow(0, 7)", 16);
        E.stays("3: the 17th row is not", SIXTEEN, "addRow(0, 7)", FULL);
        E.stays("3: the 17th row is not, all were read", SIXTEEN + "; read(128)", "addRow(0, 7)", FULL);
        E.act("3: another block has room", SIXTEEN + "; add 1:5-9=6", "addRow(1, 7)", 2);
        E.act("3: from 1 to 16, one by one", "add 0:5-9=6; 14 times addRow(0, 7)", "addRow(0, 9)", 16);
        E.stays("3: and not one more", "add 0:5-9=6; 15 times addRow(0, 7)", "addRow(0, 9)", FULL);
        E.due("3: it is behind the others", "add 0:5-9=6; addRow(0, 8); readFrom(0)", "readFrom(0)", 8);
        E.due("3: the 16th is the last", "add 0:5-9=6; 14 times addRow(0, 7); addRow(0, 9); 15 times readFrom(0)",
                "readFrom(0)", 9);
        E.due("3: it is not read, though all others were", "add 0:5-9=6; readFrom(0); addRow(0, 8)",
                "value(0, 1)", NOT_POSSIBLE);
        E.due("3: so it is next", "add 0:5-9=6; readFrom(0); addRow(0, 8)", "next(1)", 1);
        E.due("3: the row at the place of one that was undone is the new one",
                "add 0:5-9=6; addRow(0, 8); undo(); addRow(0, 9); readFrom(0)", "readFrom(0)", 9);
    }

    private static void rowsOutOfRange() {
        E.act("3: the bottom", "add 0:5-9=6", "addRow(0, 5)", 2);
        E.act("3: the top", "add 0:5-9=6", "addRow(0, 9)", 2);
        E.stays("3: one below the bottom", "add 0:5-9=6", "addRow(0, 4)", BAD);
        E.stays("3: one above the top", "add 0:5-9=6", "addRow(0, 10)", BAD);
        E.act("3: the bottom 0", "add 0:0-999=6", "addRow(0, 0)", 2);
        E.act("3: the top 999", "add 0:0-999=6", "addRow(0, 999)", 2);
        E.stays("3: -1", "add 0:0-999=6", "addRow(0, -1)", BAD);
        E.stays("3: 1000", "add 0:0-999=6", "addRow(0, 1000)", BAD);
        E.act("3: the only value there is", "add 0:7-7=7", "addRow(0, 7)", 2);
        E.stays("3: below the only one", "add 0:7-7=7", "addRow(0, 6)", BAD);
        E.stays("3: above the only one", "add 0:7-7=7", "addRow(0, 8)", BAD);
        E.stays("3: the bottom and the top are those of this block", "add 0:5-9=6; add 0:20-30=25", "addRow(1, 9)", BAD);
        E.stays("3: as it was narrowed, below", "add 0:5-9=6,8; narrow(0)", "addRow(0, 5)", BAD);
        E.stays("3: as it was narrowed, above", "add 0:5-9=6,8; narrow(0)", "addRow(0, 9)", BAD);
        E.act("3: as it was narrowed, the new top", "add 0:5-9=6,8; narrow(0)", "addRow(0, 8)", 3);
        for (int far : new int[] {MIN, MAX, 65536 + 6, 256 + 6, -6}) {
            E.stays("3: far outside", "add 0:5-9=6", "addRow(0, " + far + ")", BAD);
        }
    }

    private static void rowsOfNoBlock() {
        E.stays("3: no block, one behind the last", "add 0:5-9=6", "addRow(1, 6)", UNKNOWN);
        E.stays("3: no block, one ahead of the first", "add 0:5-9=6", "addRow(-1, 6)", UNKNOWN);
        E.act("3: the last of eight", EIGHT, "addRow(7, 6)", 2);
        E.stays("3: one behind the last of eight", EIGHT, "addRow(8, 6)", UNKNOWN);
        E.stays("3: a block that was undone", EIGHT + "; undo()", "addRow(7, 6)", UNKNOWN);
        for (int far : new int[] {MIN, MAX, 65536, 256, -256}) {
            E.stays("3: far from any block", "add 0:5-9=6", "addRow(" + far + ", 6)", UNKNOWN);
        }
        E.stays("3: UNKNOWN comes ahead of BAD_VALUE", "add 0:5-9=6", "addRow(1, 1000)", UNKNOWN);
        E.stays("3: UNKNOWN comes ahead of BAD_VALUE, below", "add 0:5-9=6", "addRow(-1, -1)", UNKNOWN);
        E.stays("3: BAD_VALUE comes ahead of FULL, above", SIXTEEN, "addRow(0, 10)", BAD);
        E.stays("3: BAD_VALUE comes ahead of FULL, below", SIXTEEN, "addRow(0, -1)", BAD);
    }

    private static void changedRows() {
        String steps = "add 0:5-9=6,7,8; 2 times readFrom(0)";
        E.act("4: the first row, read", steps, "change(0, 0, 7)", 1);
        E.act("4: the last row that was read", steps, "change(0, 1, 8)", 1);
        E.act("4: the first row that was not", steps, "change(0, 2, 7)", 0);
        E.act("4: none was read", "add 0:5-9=6,7,8", "change(0, 0, 7)", 0);
        E.act("4: all were read", "add 0:5-9=6,7,8; read(3)", "change(0, 2, 7)", 1);
        E.act("4: the 16th row", SIXTEEN, "change(0, 15, 6)", 0);
        E.stays("4: behind the 16th row", SIXTEEN, "change(0, 16, 6)", UNKNOWN);
        E.stays("4: one behind the last row", steps, "change(0, 3, 7)", UNKNOWN);
        E.stays("4: one ahead of the first row", steps, "change(0, -1, 7)", UNKNOWN);
        E.stays("4: one behind the last block", steps, "change(1, 0, 7)", UNKNOWN);
        E.stays("4: one ahead of the first block", steps, "change(-1, 0, 7)", UNKNOWN);
        E.act("4: the last of eight", EIGHT, "change(7, 0, 7)", 0);
        E.stays("4: one behind the last of eight", EIGHT, "change(8, 0, 7)", UNKNOWN);
        E.stays("4: a row of another block", steps + "; add 0:5-9=6", "change(1, 1, 7)", UNKNOWN);
        for (int far : new int[] {MIN, MAX, 65536, 256}) {
            E.stays("4: far from any block", steps, "change(" + far + ", 0, 7)", UNKNOWN);
            E.stays("4: far from any row", steps, "change(0, " + far + ", 7)", UNKNOWN);
            E.stays("4: far from any value", steps, "change(0, 0, " + far + ")", BAD);
        }
        E.due("4: the value is another", steps + "; change(0, 1, 9)", "value(0, 1)", 9);
        E.due("4: so is the sum", steps + "; change(0, 1, 9)", "block(0, 6)", 15);
        E.due("4: it is not read by that", steps + "; change(0, 2, 9)", "value(0, 2)", NOT_POSSIBLE);
        E.due("4: what was not read is not in the sum", steps + "; change(0, 2, 9)", "block(0, 6)", 13);
        E.due("4: the least value goes up", "add 0:2-9=5,8; ask(2, 1, 0, 0); read(1); change(0, 0, 6)",
                "question(0, 6)", 6);
        E.due("4: the greatest value goes down", "add 0:2-9=5,8; ask(3, 1, 0, 0); read(1); change(0, 0, 4)",
                "question(0, 5)", 4);
        E.due("4: how many goes down", "add 0:2-9=5,8; ask(1, 1, 5, 0); read(1); change(0, 0, 4)",
                "question(0, 5)", 0);
        E.due("4: it is read later as it is then", steps + "; change(0, 2, 9)", "readFrom(0)", 9);
    }

    private static void changedValues() {
        String steps = "add 0:5-9=6,7,8; 2 times readFrom(0)";
        E.act("4: to the bottom", steps, "change(0, 0, 5)", 1);
        E.act("4: to the top", steps, "change(0, 0, 9)", 1);
        E.act("4: to the bottom, not read", steps, "change(0, 2, 5)", 0);
        E.act("4: to the top, not read", steps, "change(0, 2, 9)", 0);
        E.stays("4: to one below the bottom", steps, "change(0, 0, 4)", BAD);
        E.stays("4: to one above the top", steps, "change(0, 0, 10)", BAD);
        E.stays("4: to one below the bottom, not read", steps, "change(0, 2, 4)", BAD);
        E.stays("4: to one above the top, not read", steps, "change(0, 2, 10)", BAD);
        E.act("4: to 0", "add 0:0-999=6", "change(0, 0, 0)", 0);
        E.act("4: to 999", "add 0:0-999=6", "change(0, 0, 999)", 0);
        E.stays("4: to -1", "add 0:0-999=6", "change(0, 0, -1)", BAD);
        E.stays("4: to 1000", "add 0:0-999=6", "change(0, 0, 1000)", BAD);
        E.stays("4: the value that it has, read", steps, "change(0, 0, 6)", NONE);
        E.stays("4: the value that it has, not read", steps, "change(0, 2, 8)", NONE);
        E.stays("4: the value that it has, the bottom", "add 0:5-9=5", "change(0, 0, 5)", NONE);
        E.stays("4: the value that it has, the top", "add 0:5-9=9", "change(0, 0, 9)", NONE);
        E.stays("4: the value that it has since it was changed", steps + "; change(0, 0, 9)", "change(0, 0, 9)", NONE);
        E.act("4: back to the value that it had", steps + "; change(0, 0, 9)", "change(0, 0, 6)", 1);
        E.stays("4: UNKNOWN (block) comes ahead of BAD_VALUE", steps, "change(1, 0, 10)", UNKNOWN);
        E.stays("4: UNKNOWN (row) comes ahead of BAD_VALUE", steps, "change(0, 3, 10)", UNKNOWN);
        E.stays("4: UNKNOWN (row below 0) comes ahead of BAD_VALUE", steps, "change(0, -1, 4)", UNKNOWN);
    }

    private static void narrowedBlocks() {
        E.act("5: the bottom alone", "add 0:5-9=6,9", "narrow(0)", 1);
        E.act("5: the top alone", "add 0:5-9=5,8", "narrow(0)", 1);
        E.act("5: both", "add 0:5-9=6,8", "narrow(0)", 2);
        E.act("5: to a single value", "add 0:0-999=500", "narrow(0)", 999);
        E.act("5: to the single value 0", "add 0:0-999=0", "narrow(0)", 999);
        E.act("5: to the single value 999", "add 0:0-999=999", "narrow(0)", 999);
        E.act("5: the least value is in the last row", "add 0:5-9=9,9,6", "narrow(0)", 1);
        E.act("5: the greatest value is in the 16th row", "add 0:0-9=0,0,0,0,0,0,0,0,0,0,0,0,0,0,0,8", "narrow(0)", 1);
        E.act("5: the last of eight", EIGHT, "narrow(7)", 4);
        E.stays("5: it stays, both are there", "add 0:5-9=9,5", "narrow(0)", NONE);
        E.stays("5: it stays, the bottom is the top", "add 0:7-7=7,7", "narrow(0)", NONE);
        E.stays("5: it stays behind the first time", "add 0:5-9=6,8; narrow(0)", "narrow(0)", NONE);
        E.stays("5: it stays, one that was read and one that was not", "add 0:5-9=5,9; readFrom(0)", "narrow(0)", NONE);
        E.act("5: again, when a row at the end was changed", "add 0:5-9=6,8; narrow(0); change(0, 1, 7)", "narrow(0)", 1);
        E.stays("5: one behind the last block", "add 0:5-9=6", "narrow(1)", UNKNOWN);
        E.stays("5: one ahead of the first block", "add 0:5-9=6", "narrow(-1)", UNKNOWN);
        E.stays("5: one behind the last of eight", EIGHT, "narrow(8)", UNKNOWN);
        E.stays("5: far from any block", "add 0:5-9=6", "narrow(" + MIN + ")", UNKNOWN);
        E.stays("5: far from any block", "add 0:5-9=6", "narrow(" + MAX + ")", UNKNOWN);
        E.stays("5: far from any block, 256", "add 0:5-9=6", "narrow(256)", UNKNOWN);
    }

    private static void narrowedByAllValues() {
        E.due("5: the least is of a row that was read", "add 0:0-9=3,5; readFrom(0); narrow(0)", "block(0, 1)", 3);
        E.due("5: the greatest is of a row that was not", "add 0:0-9=3,5; readFrom(0); narrow(0)", "block(0, 2)", 5);
        E.due("5: the least is of a row that was not read", "add 0:0-9=5,3; readFrom(0); narrow(0)", "block(0, 1)", 3);
        E.due("5: the greatest is of a row that was read", "add 0:0-9=5,3; readFrom(0); narrow(0)", "block(0, 2)", 5);
        E.due("5: nothing is read by it", "add 0:0-9=5,3; readFrom(0); narrow(0)", "block(0, 4)", 1);
        E.due("5: nothing was read, and nothing is", "add 0:0-9=5,3; narrow(0)", "value(0, 0)", NOT_POSSIBLE);
        E.due("5: another block stays", "add 0:0-9=5,3; addBlock(); narrow(0)", "block(1, 2)", 9);
        E.due("5: what was read stays in the sum", "add 0:0-9=5,3; readFrom(0); narrow(0)", "block(0, 6)", 5);
        E.due("5: the values of a row that is gone do not count", "add 0:0-9=5,3; addRow(0, 9); undo(); narrow(0)",
                "block(0, 2)", 5);
    }

    private static void forgottenRows() {
        E.stays("6: blocks of which nothing was read", "add 0:5-9=6; addBlock()", "forget()", NONE);
        E.act("6: one row was read", "add 0:5-9=6,7; addBlock(); readFrom(1)", "forget()", 1);
        E.act("6: all rows were read", "add 0:5-9=6,7; addBlock(); read(4)", "forget()", 4);
        E.act("6: all 128 rows were read", SIXTEEN + "; 7 times addBlock(); read(128)", "forget()", 128);
        E.stays("6: all is forgotten already", "add 0:5-9=6,7; read(2); forget()", "forget()", NONE);
        E.act("6: what is read again is forgotten again", "add 0:5-9=6,7; read(2); forget(); read(1)", "forget()", 1);
        String steps = "add 0:0-10=4,6; ask(0, 1, 0, 10); ask(0, 1, 0, 0); add 1:0-5=1; read(2)";
        E.due("6: no row is read then", steps + "; forget()", "count(5)", 0);
        E.due("6: the value is not known", steps + "; forget()", "value(0, 0)", NOT_POSSIBLE);
        E.due("6: the value is there", steps + "; forget()", "readFrom(0)", 4);
        E.due("6: the rows stay", steps + "; forget()", "count(4)", 3);
        E.due("6: a question that is stopped stays so", steps + "; forget()", "question(0, 4)", 1);
        E.due("6: with its final answer", steps + "; forget()", "question(0, 10)", 8);
        E.due("6: one that is open stays so", steps + "; forget()", "question(1, 4)", 0);
        E.due("6: its bounds are as if nothing had been read", steps + "; forget()", "question(1, 6)", 20);
        E.due("6: its guess, too", steps + "; forget()", "question(1, 7)", 10);
        E.due("6: the least value that was read is forgotten", "add 0:2-9=5,8; ask(2, 1, 0, 0); read(1); forget()",
                "question(0, 6)", 9);
        E.due("6: the greatest value that was read is forgotten", "add 0:2-9=5,8; ask(3, 1, 0, 0); read(1); forget()",
                "question(0, 5)", 2);
        E.due("6: the sum is forgotten", "add 0:2-9=5,8; read(1); forget()", "block(0, 6)", 0);
        E.due("6: the turn stays", steps + "; setPlan(1); read(1); setPlan(0); forget()", "count(6)", 0);
        E.due("6: the turn stays, between two blocks", "add 0:0-9=1,2; addBlock(); read(1); forget()", "next(0)", 1);
    }

    public static void main(String[] args) {
        newObjectTells();
        newObjectRefuses();
        newObjectTakes();
        blocksFromNoneToFull();
        blocksOrderOfErrors();
        bottomsAndTops();
        valuesOfTexts();
        rowsOfTexts();
        rowsFromOneToFull();
        rowsOutOfRange();
        rowsOfNoBlock();
        changedRows();
        changedValues();
        narrowedBlocks();
        narrowedByAllValues();
        forgottenRows();
        E.end();
    }
}
