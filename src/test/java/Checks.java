/** Counts and prints the answers that are not the ones that are due. */
final class Checks {
    private final String name;
    private int made;
    private int wrong;

    Checks(String name) {
        this.name = name;
    }

    void due(String call, long got, long want) {
        made++;
        if (got != want) {
            wrong++;
            System.out.println(name + ": " + call + " answered " + got + ", due is " + want);
        }
    }

    /** Clears the text, types this one, and tells what addBlock() answers. */
    static int addBlock(SureAnswers x, String text) {
        x.clearText();
        typeAll(x, text);
        return x.addBlock();
    }

    static void typeAll(SureAnswers x, String text) {
        for (int i = 0; i < text.length(); i++) {
            x.type(text.charAt(i));
        }
    }

    /** A new object with these blocks. */
    static SureAnswers with(String... blocks) {
        SureAnswers x = new SureAnswers();
        for (String text : blocks) {
            addBlock(x, text);
        }
        return x;
    }

    /** Ends the test: with exit code 1 if an answer was wrong, or none was looked at. */
    void end() {
        System.out.println(name + ": " + made + " answers, " + wrong + " wrong");
        if (wrong != 0 || made == 0) {
            System.exit(1);
        }
    }
}
