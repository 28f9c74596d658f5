/** Promises 15 to 19: the text, undo, and the snapshot. */
public final class TextsAndHistoryTest {
    private static final Checks C = new Checks("TextsAndHistoryTest");

    private static void promise15Type() {
        SureAnswers x = new SureAnswers();
        for (int i = 1; i <= 80; i++) {
            C.due("15: the length then", x.type((char) (i * 811)), i);
        }
        C.due("15: an 81st", x.type('0'), SureAnswers.FULL);
        C.due("15: the length stays", x.count(8), 80);
        C.due("15: no act", x.count(7), 0);
        SureAnswers y = Checks.with("0:1-2=2");
        y.type(',');
        y.type('1');
        C.due("15: behind the text", y.addBlock(), 1);
        C.due("15: so it has two rows", y.block(1, 3), 2);
        y.type((char) 0);
        C.due("15: any character", y.addBlock(), -109);
        y.undo();
        C.due("15: undo leaves the text", y.count(8), 10);
    }

    private static void promise16ClearText() {
        SureAnswers x = new SureAnswers();
        C.due("16: empty at first", x.clearText(), 0);
        Checks.typeAll(x, "0:1-2");
        C.due("16: the length that it had", x.clearText(), 5);
        C.due("16: it is empty", x.count(8), 0);
        C.due("16: once more", x.clearText(), 0);
        C.due("16: the empty text has its fault at 0", x.addBlock(), -100);
        C.due("16: no act", x.count(7), 0);
        Checks.typeAll(x, "1:5-6=6");
        C.due("16: nothing of the old text is left", x.addBlock(), 0);
    }

    private static void promise17Undo() {
        SureAnswers x = new SureAnswers();
        C.due("17: empty at first", x.undo(), SureAnswers.NONE);
        Checks.addBlock(x, "0:0-100=10,20");
        x.ask(0, 1, 0, 100);
        x.read(1);
        C.due("17: three states", x.count(7), 3);
        C.due("17: it is stopped", x.question(0, 4), 1);
        C.due("17: two are left", x.undo(), 2);
        C.due("17: nothing is read", x.count(5), 0);
        C.due("17: it is open", x.question(0, 4), 0);
        C.due("17: one is left", x.undo(), 1);
        C.due("17: no question", x.count(1), 0);
        C.due("17: none is left", x.undo(), 0);
        C.due("17: no block", x.count(0), 0);
        C.due("17: NONE", x.undo(), SureAnswers.NONE);
        C.due("17: the text stays", x.count(8), 13);
        // Four at most: the oldest one is dropped.
        for (int i = 0; i < 6; i++) {
            x.addBlock();
        }
        C.due("17: four states", x.count(7), 4);
        for (int left = 3; left >= 0; left--) {
            C.due("17: one less", x.undo(), left);
            C.due("17: a block less", x.count(0), 2 + left);
        }
        C.due("17: no more", x.undo(), SureAnswers.NONE);
        C.due("17: two blocks stay", x.count(0), 2);
        x.setPlan(1);
        x.setPlan(2);
        x.undo();
        x.setPlan(0);
        x.undo();
        C.due("17: behind an undo it goes on", x.count(3), 1);
        x.undo();
        C.due("17: to the first one", x.count(3), 0);
    }

    /** What was done, told by all that can be told of the state in one number. */
    private static long picture(SureAnswers x) {
        long picture = 0;
        for (int what = 0; what <= 6; what++) {
            picture = 31 * picture + x.count(what);
        }
        for (int i = 0; i < 2; i++) {
            for (int what = 0; what <= 6; what++) {
                picture = 31 * picture + x.block(i, what);
            }
            for (int what = 0; what <= 12; what++) {
                picture = 31 * picture + x.question(i, what);
            }
            for (int row = 0; row < 4; row++) {
                picture = 31 * picture + x.value(i, row);
            }
        }
        return picture;
    }

    private static int act(SureAnswers x, int act) {
        switch (act) {
            case 0:
                return Checks.addBlock(x, "1:0-9=5");
            case 1:
                return x.addRow(0, 30);
            case 2:
                return x.change(0, 0, 40);
            case 3:
                return x.narrow(0);
            case 4:
                return x.forget();
            case 5:
                return x.ask(1, 1, 5, 0);
            case 6:
                return x.setTolerance(0, 3);
            case 7:
                return x.stop(0);
            case 8:
                return x.drop(0);
            case 9:
                return x.setPlan(2);
            case 10:
                return x.read(1);
            case 11:
                return x.readOn();
            case 12:
                return x.readFrom(0);
            default:
                return x.restore();
        }
    }

    /** Each act records one state, the one before it; what is no act records none. */
    private static void promise17EachAct() {
        for (int act = 0; act <= 13; act++) {
            SureAnswers x = new SureAnswers();
            x.keep();
            Checks.addBlock(x, "0:0-99=10,20,30");
            x.ask(0, 1, 0, 0);
            x.readFrom(0);
            long before = picture(x);
            C.due("17: the act " + act + " is one", act(x, act) >= 0 ? 1 : 0, 1);
            C.due("17: the act " + act + " changes the state", picture(x) != before ? 1 : 0, 1);
            C.due("17: the act " + act + " records a state", x.count(7), 4);
            C.due("17: the act " + act + " is undone", x.undo(), 3);
            C.due("17: the state before the act " + act, picture(x), before);
        }
        SureAnswers x = Checks.with("0:0-99=10,20,30");
        x.ask(0, 1, 0, 0);
        x.type('1');
        x.clearText();
        x.keep();
        x.block(0, 0);
        x.value(0, 0);
        x.question(0, 5);
        x.next(0);
        x.stopsIn(0);
        x.best(0);
        x.count(0);
        C.due("17: what is no act records nothing", x.count(7), 2);
    }

    /** What was read of a block, and its bottom, come back as they were. */
    private static void promise17WhatWasRead() {
        SureAnswers x = Checks.with("0:3-90=40,50,7", "0:0-99=60");
        x.ask(2, 1, 0, 0);
        x.ask(3, 1, 0, 0);
        x.ask(0, 1, 0, 0);
        x.read(3);
        x.keep();
        x.undo();
        C.due("17: nothing is read, the sum's lower bound", x.question(2, 5), 9);
        C.due("17: the least, nothing is read", x.question(0, 6), 90);
        C.due("17: the greatest, nothing is read", x.question(1, 5), 3);
        x.restore();
        C.due("19: the bottom, in the lower bound", x.question(2, 5), 153);
        C.due("19: the sum of the block", x.block(0, 6), 90);
        C.due("19: the least that was read", x.question(0, 6), 40);
        C.due("19: the greatest that was read", x.question(1, 5), 60);
        x.narrow(0);
        x.undo();
        C.due("17: the bottom as it was", x.block(0, 1), 3);
        C.due("17: the top as it was", x.block(0, 2), 90);
    }

    private static void promise17Turn() {
        SureAnswers x = Checks.with("0:0-9=1", "0:0-9=1", "0:0-9=1");
        x.read(1);
        x.read(1);
        C.due("17: the turn", x.count(6), 2);
        x.undo();
        C.due("17: the turn before", x.count(6), 1);
        x.undo();
        C.due("17: and before that", x.count(6), 0);
        SureAnswers y = Checks.with("0:0-9=1,2,3");
        y.setPlan(0);
        y.readFrom(7);
        y.readFrom(0);
        y.addRow(0, 77);
        y.restore();
        C.due("17: errors and NONE record nothing", y.count(7), 2);
    }

    private static void promise18And19Snapshot() {
        SureAnswers x = new SureAnswers();
        C.due("19: no snapshot", x.restore(), SureAnswers.NONE);
        C.due("18: no row was read", x.keep(), 0);
        Checks.addBlock(x, "0:0-100=10,20,30");
        x.ask(0, 1, 0, 100);
        x.setPlan(1);
        x.read(2);
        C.due("18: two rows were read", x.keep(), 2);
        C.due("18: no act", x.count(7), 4);
        x.change(0, 0, 99);
        x.drop(0);
        x.setPlan(2);
        x.forget();
        x.clearText();
        C.due("19: two rows were read then", x.restore(), 2);
        C.due("19: the value", x.value(0, 0), 10);
        C.due("19: the question", x.question(0, 9), 130);
        C.due("19: the plan", x.count(3), 1);
        C.due("19: not the text", x.count(8), 0);
        C.due("19: not the history", x.count(7), 4);
        C.due("19: an act", x.undo(), 3);
        C.due("19: it is undone", x.count(5), 0);
        C.due("19: the snapshot stays", x.restore(), 2);
        C.due("19: it stays again", x.restore(), 2);
        x.readFrom(0);
        x.keep();
        x.forget();
        C.due("18: in place of the one that was", x.restore(), 3);
        x.addRow(0, 50);
        C.due("19: what comes behind is not in it", x.restore(), 3);
        C.due("19: no fourth row", x.block(0, 3), 3);
    }

    public static void main(String[] args) {
        promise15Type();
        promise16ClearText();
        promise17Undo();
        promise17EachAct();
        promise17WhatWasRead();
        promise17Turn();
        promise18And19Snapshot();
        C.end();
    }
}
