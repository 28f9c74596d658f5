/**
 * A new object that is driven by steps: calls as the document writes them, with
 * ";" between two. Beside them there are "text T" (clears the text and types T),
 * "add T" (the same, then addBlock()) and "N times" ahead of a step. It counts
 * the calls: nothing is promised of an object behind its 512th one.
 */
final class Script {
    private static final int MOST_CALLS = 512;

    private final SureAnswers x = new SureAnswers();
    private int calls;

    static Script of(String steps) {
        Script script = new Script();
        script.run(steps);
        return script;
    }

    /** Tells what the last of the steps answered. */
    int run(String steps) {
        int answer = 0;
        if (steps.isEmpty()) {
            return answer;
        }
        for (String step : steps.split(";")) {
            String single = step.trim();
            int times = 1;
            int at = single.indexOf(" times ");
            if (at >= 0) {
                times = Integer.parseInt(single.substring(0, at));
                single = single.substring(at + 7);
            }
            for (int i = 0; i < times; i++) {
                answer = step(single);
            }
        }
        return answer;
    }

    private int step(String step) {
        if (step.startsWith("text ")) {
            return typed(step.substring(5));
        }
        if (step.startsWith("add ")) {
            typed(step.substring(4));
            return counted(x.addBlock());
        }
        int open = step.indexOf('(');
        String inside = step.substring(open + 1, step.length() - 1).trim();
        String[] parts = inside.isEmpty() ? new String[0] : inside.split(",");
        int[] arguments = new int[parts.length];
        for (int i = 0; i < parts.length; i++) {
            arguments[i] = Integer.parseInt(parts[i].trim());
        }
        return counted(call(step.substring(0, open), arguments));
    }

    /** Clears the text and types this one, whatever its characters are. */
    int typed(String text) {
        int length = counted(x.clearText());
        for (int i = 0; i < text.length(); i++) {
            length = counted(x.type(text.charAt(i)));
        }
        return length;
    }

    private int counted(int answer) {
        calls++;
        if (calls > MOST_CALLS) {
            throw new IllegalStateException("a test goes on behind the 512th call");
        }
        return answer;
    }

    private int call(String name, int[] a) {
        switch (name) {
            case "addBlock": return x.addBlock();
            case "addRow": return x.addRow(a[0], a[1]);
            case "change": return x.change(a[0], a[1], a[2]);
            case "narrow": return x.narrow(a[0]);
            case "forget": return x.forget();
            case "ask": return x.ask(a[0], a[1], a[2], a[3]);
            case "setTolerance": return x.setTolerance(a[0], a[1]);
            case "stop": return x.stop(a[0]);
            case "drop": return x.drop(a[0]);
            case "setPlan": return x.setPlan(a[0]);
            case "read": return x.read(a[0]);
            case "readOn": return x.readOn();
            case "readFrom": return x.readFrom(a[0]);
            case "type": return x.type((char) a[0]);
            case "clearText": return x.clearText();
            case "undo": return x.undo();
            case "keep": return x.keep();
            case "restore": return x.restore();
            case "block": return x.block(a[0], a[1]);
            case "value": return x.value(a[0], a[1]);
            case "question": return x.question(a[0], a[1]);
            case "next": return x.next(a[0]);
            case "stopsIn": return x.stopsIn(a[0]);
            case "best": return x.best(a[0]);
            case "count": return x.count(a[0]);
            default: throw new IllegalArgumentException("there is no call " + name);
        }
    }
}
