/** The boundary cases of the texts: the faults that addBlock() tells (promise 2), type() and clearText(). */
public final class TextEdgesTest {
    private static final int FULL = SureAnswers.FULL;
    private static final String WHOLE = "2:10-200=10,200,99";
    private static final String SIXTEEN = "0:0-9=0,1,2,3,4,5,6,7,8,9,0,1,2,3,4,5";
    private static final Edges E = new Edges("TextEdgesTest");
    private static final Checks C = new Checks("TextEdgesTest, other texts");

    private static void fault(String message, String text, int at) {
        E.stays("2: " + message, "add 1:1-2=1; text " + text, "addBlock()", -100 - at);
    }

    private static void whole(String message, String text) {
        E.act("2: " + message, "add 1:1-2=1; text " + text, "addBlock()", 1);
    }

    private static void endsTooEarly() {
        E.stays("2: the empty text ends too early", "add 1:1-2=1; clearText()", "addBlock()", -100);
        fault("behind the layer it ends too early", "2", 1);
        fault("behind the : it ends too early", "2:", 2);
        fault("behind a digit of the bottom it ends too early", "2:1", 3);
        fault("behind the bottom it ends too early", "2:10", 4);
        fault("behind the longest bottom it ends too early", "2:100", 5);
        fault("behind the bottom 0 it ends too early", "2:0", 3);
        fault("behind the - it ends too early", "2:10-", 5);
        fault("behind a digit of the top it ends too early", "2:10-2", 6);
        fault("behind the top it ends too early", "2:10-200", 8);
        fault("behind the = it ends too early", "2:10-200=", 9);
        whole("behind a value it may end", "2:10-200=10");
        fault("behind a , it ends too early", "2:10-200=10,", 12);
        whole("behind the second value it may end", "2:10-200=10,200");
        fault("behind the 15th , it ends too early", "0:0-9=0,1,2,3,4,5,6,7,8,9,0,1,2,3,4,", 36);
        whole("behind the 16th value it may end", SIXTEEN);
    }

    private static void layers() {
        whole("the layer 0", "0:1-2=1");
        whole("the layer 3", "3:1-2=1");
        fault("the layer 4 is one too many", "4:1-2=1", 0);
        fault("the sign ahead of the 0 is no layer", "/:1-2=1", 0);
        fault("the layer 9", "9:1-2=1", 0);
        fault("a letter for the layer", "a:1-2=1", 0);
        fault("no layer", ":1-2=1", 0);
        fault("a layer below 0", "-1:1-2=1", 0);
        fault("a layer of two digits", "00:1-2=1", 1);
        fault("a blank ahead of the layer", "\u00a00:1-2=1", 0);
        fault("a blank behind the layer", "0 :1-2=1", 1);
    }

    private static void signs() {
        fault("another sign for the :", "0-1-2=1", 1);
        fault("the sign ahead of the :", "091-2=1", 1);
        fault("a second :", "0::1-2=1", 2);
        fault("another sign for the -", "0:1:2=1", 3);
        fault("a , for the -", "0:1,2=1", 3);
        fault("a second -", "0:1--2=1", 4);
        fault("another sign for the =", "0:1-2-1", 5);
        fault("a : for the =", "0:1-2:1", 5);
        fault("a second =", "0:1-2==1", 6);
        fault("another sign for the ,", "0:1-2=1-2", 7);
        fault("a . for the ,", "0:1-2=1.2", 7);
        fault("a second ,", "0:1-2=1,,2", 8);
        fault("a , ahead of the first value", "0:1-2=,1", 6);
        fault("a blank behind the text", "0:1-2=1\u00a0", 7);
        fault("a = behind the text", "0:1-2=1=", 7);
    }

    private static void digits() {
        whole("a bottom of one digit", "0:5-999=500");
        whole("a bottom of three digits", "0:100-999=500");
        fault("a bottom of four digits", "0:1000-999=500", 5);
        fault("a bottom of none", "0:-999=500", 2);
        whole("a top of one digit", "0:0-5=5");
        whole("a top of three digits", "0:0-500=5");
        fault("a top of four digits", "0:0-5000=5", 7);
        fault("a top of none", "0:0-=5", 4);
        whole("a value of one digit", "0:0-999=5");
        whole("a value of three digits", "0:0-999=500");
        fault("a value of four digits", "0:0-999=5000", 11);
        fault("a second value of four digits", "0:0-999=5,5000", 13);
        fault("a value of none", "0:0-999=", 8);
        fault("a sign ahead of the bottom", "0:+1-2=1", 2);
        fault("a bottom below 0", "0:-1-2=1", 2);
        fault("a top below 0", "0:0--1=0", 4);
        fault("a value below 0", "0:0-1=-1", 6);
        fault("the sign behind the 9", "0:1-2=:", 6);
        fault("the sign ahead of the 0", "0:1-2=/", 6);
        fault("the sign behind the 9, as a second digit", "0:1-20=1:", 8);
        fault("the sign ahead of the 0, as a second digit", "0:1-20=1/", 8);
        fault("a letter in the bottom", "0:1a-20=1", 3);
        fault("a letter in the top", "0:1-2a=1", 5);
    }

    private static void zeros() {
        whole("the single digit 0, as a bottom", "0:0-9=5");
        whole("the single digit 0, as a top", "0:0-0=0");
        whole("the single digit 0, as a value", "0:0-9=0,0");
        whole("a zero behind another digit", "0:10-100=10,100");
        fault("a zero in front of the bottom", "0:01-9=5", 3);
        fault("two zeros for the bottom", "0:00-9=5", 3);
        fault("a zero in front of the top", "0:0-09=5", 5);
        fault("two zeros for the top", "0:0-00=0", 5);
        fault("a zero in front of a value", "0:0-9=05", 7);
        fault("two zeros for a value", "0:0-9=00", 7);
        fault("a zero in front of the last value", "0:0-9=5,05", 9);
    }

    private static void sixteenValues() {
        whole("16 values", SIXTEEN);
        fault("a , behind the 16th value", SIXTEEN + ",", 37);
        fault("a 17th value", SIXTEEN + ",6", 37);
        fault("another sign behind the 16th value", SIXTEEN + "x", 37);
        whole("two digits of the 16th value", "0:0-99=0,1,2,3,4,5,6,7,8,9,0,1,2,3,4,50");
        fault("a fourth digit of the 16th value", "0:0-99=0,1,2,3,4,5,6,7,8,9,0,1,2,3,4,5000", 40);
        String longest = "0:100-999=100,200,300,400,500,600,700,800,900,100,200,300,400,500,600,999";
        C.due("2: the longest text of a block has 73 characters", longest.length(), 73);
        whole("the longest text of a block", longest);
        fault("the longest text with one more digit", longest + "0", 73);
        fault("the longest text with a , behind it", longest + ",", 73);
        fault("a text of 80 characters", longest + ",100,20", 73);
        fault("a fault in the last place of the longest text", longest.substring(0, 72) + "x", 72);
    }

    /** At each place every character is tried: it is the first fault there, or it may stand there. */
    private static void everyCharacter() {
        char[] far = {'0' + 256, ':' + 256, '-' + 256, '=' + 256, ',' + 256, '\u0660', '\uff11', '\u2212', '\uffff'};
        for (int at = 0; at <= WHOLE.length(); at++) {
            for (int i = 0; i < 256 + far.length; i++) {
                char sign = i < 256 ? (char) i : far[i - 256];
                String text = WHOLE.substring(0, at) + sign;
                Model model = new Model();
                for (int k = 0; k < text.length(); k++) {
                    model.type(text.charAt(k));
                }
                Script script = new Script();
                script.typed(text);
                C.due("2: the sign " + (int) sign + " at the place " + at, script.run("addBlock()"), model.addBlock());
            }
        }
    }

    /** What is tried by hand of that, so that it does not lean on the model alone. */
    private static void someCharacters() {
        String places = "2:10-200=10,200,99";
        for (int at = 0; at < places.length(); at++) {
            for (char sign : new char[] {0, ' ', 'a', '.', '+', 255, '0' + 256, '\u0660', '\uff11', '\uffff'}) {
                Script script = new Script();
                script.typed(places.substring(0, at) + sign + places.substring(at + 1));
                C.due("2: the sign " + (int) sign + " is allowed at no place, " + at, script.run("addBlock()"), -100 - at);
                C.due("2: and nothing is added by it", script.run("count(0)"), 0);
                C.due("2: nor recorded", script.run("count(7)"), 0);
                C.due("2: the text stays", script.run("count(8)"), places.length());
            }
        }
    }

    private static void faultsAgain() {
        E.due("2: a fault is told again", "text 0:1-2=1,", "addBlock()", -108);
        E.due("2: a text with a fault can be mended at its end", "add 0:1-2=1,; type(50)", "addBlock()", 0);
        E.due("2: and has both values", "add 0:1-2=1,; type(50); addBlock()", "block(0, 3)", 2);
        E.due("2: a shorter text behind a longer one", "add " + SIXTEEN + "; add 0:1-2=1", "block(1, 3)", 1);
        E.due("2: a text that was cleared has no fault left", "add 0:1-2=x; clearText(); text 0:1-2=1", "addBlock()", 0);
    }

    private static void typed() {
        String blocks = "add 0:0-9=1,2; ask(0, 1, 0, 0); read(1); clearText()";
        E.ofText("15: the first character", blocks, "type(48)", 1);
        E.ofText("15: the second one", blocks + "; type(48)", "type(58)", 2);
        E.ofText("15: the 80th is taken", blocks + "; 79 times type(48)", "type(58)", 80);
        E.stays("15: the 81st is not", blocks + "; 80 times type(48)", "type(58)", FULL);
        E.stays("15: the 81st is not, again", blocks + "; 81 times type(48)", "type(48)", FULL);
        E.ofText("15: the character 0", blocks, "type(0)", 1);
        E.ofText("15: the last character there is", blocks, "type(65535)", 1);
        E.ofText("15: a line's end", blocks, "type(10)", 1);
        E.ofText("15: from 0 again behind clearText()", blocks + "; 80 times type(48); clearText()", "type(48)", 1);
        E.ofText("15: to 80 again behind clearText()", blocks + "; 80 times type(48); clearText(); 79 times type(48)",
                "type(48)", 80);
        E.stays("15: and no further", blocks + "; 80 times type(48); clearText(); 80 times type(48)", "type(48)", FULL);
        E.due("15: it comes behind the text", "text 0:0-9=1; type(50)", "addBlock()", -2);
        E.due("15: the 80 characters are those that were typed first", "text " + SIXTEEN + "; 43 times type(44); type(48)",
                "addBlock()", -137);
        E.due("15: the first of 80 characters", "80 times type(48)", "addBlock()", -101);
    }

    private static void cleared() {
        String blocks = "add 0:0-9=1,2; ask(0, 1, 0, 0); read(1); clearText()";
        E.ofText("16: the empty text", blocks, "clearText()", 0);
        E.ofText("16: one character", blocks + "; type(48)", "clearText()", 1);
        E.ofText("16: the full text", blocks + "; 80 times type(48)", "clearText()", 80);
        E.ofText("16: the full text, one more was refused", blocks + "; 81 times type(48)", "clearText()", 80);
        E.due("16: it is empty then", blocks + "; 80 times type(48); clearText()", "count(8)", 0);
        E.due("16: it is empty the second time", "3 times type(48); clearText()", "clearText()", 0);
        E.due("16: nothing of it is left in the next one", "text 0:0-9=1,2,3; clearText(); 6 times type(48)", "addBlock()", -101);
        E.due("16: nor behind the next one", "text 0:0-9=1,2,3; text 0:0-9=1; addBlock()", "block(0, 3)", 1);
    }

    private static void textIsNoState() {
        String steps = "add 0:0-9=1,2; keep(); type(44); setPlan(1)";
        E.due("17: undo() leaves the text", steps + "; undo()", "count(8)", 10);
        E.due("17: undo() of addBlock() leaves the text", "add 0:0-9=1,2; undo()", "addBlock()", 0);
        E.due("19: restore() leaves the text", steps + "; restore()", "count(8)", 10);
        E.due("19: restore() leaves the text, and what it is", steps + "; restore()", "addBlock()", -110);
        E.due("16: undo() does not bring back a text that was cleared", steps + "; clearText(); undo()", "count(8)", 0);
    }

    public static void main(String[] args) {
        endsTooEarly();
        layers();
        signs();
        digits();
        zeros();
        sixteenValues();
        everyCharacter();
        someCharacters();
        faultsAgain();
        typed();
        cleared();
        textIsNoState();
        C.end();
        E.end();
    }
}
