import java.io.IOException;
import java.lang.reflect.Constructor;
import java.lang.reflect.Field;
import java.lang.reflect.Method;
import java.lang.reflect.Modifier;
import java.nio.file.Files;
import java.nio.file.Path;
import java.util.Set;
import java.util.TreeSet;
import java.util.regex.Pattern;

/**
 * The face of the class, member by member; that no call throws, whatever its
 * arguments; that calls make few objects; and, if the source's path is given,
 * some of the rules of LANGUAGE.md that can be seen from its words.
 */
public final class FaceTest {
    private static final Checks C = new Checks("FaceTest");
    private static final String[] METHODS = {
        "addBlock()", "addRow(int,int)", "change(int,int,int)", "narrow(int)", "forget()",
        "ask(int,int,int,int)", "setTolerance(int,int)", "stop(int)", "drop(int)",
        "setPlan(int)", "read(int)", "readOn()", "readFrom(int)", "type(char)", "clearText()",
        "undo()", "keep()", "restore()", "block(int,int)", "value(int,int)", "question(int,int)",
        "next(int)", "stopsIn(int)", "best(int)", "count(int)"};
    private static final String[] CONSTANTS = {"UNKNOWN", "BAD_VALUE", "FULL", "NOT_POSSIBLE", "NONE"};
    private static final int[] ODD = {Integer.MIN_VALUE, -1000, -6, -1, 0, 1, 2, 3, 4, 5, 6, 7, 8, 9, 15, 16, 17,
        31, 32, 33, 79, 80, 81, 127, 128, 129, 999, 1000, 99999, 100000, Integer.MAX_VALUE};

    private static boolean isPublicOnly(int modifiers) {
        return Modifier.isPublic(modifiers) && !Modifier.isStatic(modifiers);
    }

    private static String signature(Method m) {
        StringBuilder text = new StringBuilder(m.getName()).append('(');
        for (Class<?> type : m.getParameterTypes()) {
            text.append(text.charAt(text.length() - 1) == '(' ? "" : ",").append(type.getName());
        }
        return text.append(')').toString();
    }

    private static void members() throws ReflectiveOperationException {
        C.due("public and final", SureAnswers.class.getModifiers(), Modifier.PUBLIC | Modifier.FINAL);
        Set<String> due = new TreeSet<>(Set.of(METHODS));
        Set<String> names = new TreeSet<>();
        for (String method : METHODS) {
            names.add(method.substring(0, method.indexOf('(')));
        }
        for (Method m : SureAnswers.class.getDeclaredMethods()) {
            if (Modifier.isPrivate(m.getModifiers())) {
                C.due("no private method is called " + m.getName(), names.contains(m.getName()) ? 1 : 0, 0);
            } else {
                C.due(signature(m) + " is in the document", due.remove(signature(m)) ? 1 : 0, 1);
                C.due(signature(m) + " is public", isPublicOnly(m.getModifiers()) ? 1 : 0, 1);
                C.due(signature(m) + " answers an int", m.getReturnType() == int.class ? 1 : 0, 1);
            }
        }
        C.due("methods that lack: " + due, due.size(), 0);
        Set<String> constants = new TreeSet<>(Set.of(CONSTANTS));
        for (Field f : SureAnswers.class.getDeclaredFields()) {
            if (!Modifier.isPrivate(f.getModifiers())) {
                C.due(f.getName() + " is a constant", constants.remove(f.getName()) ? 1 : 0, 1);
                C.due(f.getName() + " is public, static and final", f.getModifiers(),
                        Modifier.PUBLIC | Modifier.STATIC | Modifier.FINAL);
                C.due(f.getName() + " is an int", f.getType() == int.class ? 1 : 0, 1);
            }
        }
        C.due("constants that lack: " + constants, constants.size(), 0);
        Constructor<?>[] constructors = SureAnswers.class.getDeclaredConstructors();
        C.due("one constructor", constructors.length, 1);
        C.due("it is public", constructors[0].getModifiers(), Modifier.PUBLIC);
        C.due("without parameters", constructors[0].getParameterCount(), 0);
        C.due("UNKNOWN", SureAnswers.UNKNOWN, -1);
        C.due("BAD_VALUE", SureAnswers.BAD_VALUE, -2);
        C.due("FULL", SureAnswers.FULL, -3);
        C.due("NOT_POSSIBLE", SureAnswers.NOT_POSSIBLE, -4);
        C.due("NONE", SureAnswers.NONE, -5);
    }

    /** A new object, an ordinary one, or one with as much as there can be, behind some 210 calls at most. */
    private static SureAnswers inState(int state) {
        SureAnswers x = new SureAnswers();
        for (int layer = 0; layer < 2 * state; layer++) {
            Checks.addBlock(x, layer + ":0-999=0,999,5,6,7,8,9,10,11,12,13,14,15,16,17,18");
            x.addBlock();
        }
        for (int i = 0; i < 3 * state; i++) {
            x.ask(i % 5, 15, 0, 0);
        }
        if (state == 2) {
            x.keep();
        }
        return x;
    }

    private static void callAll(SureAnswers x, int a, int b, int c) {
        x.block(a, b);
        x.value(a, b);
        x.question(a, b);
        x.next(a);
        x.stopsIn(a);
        x.best(a);
        x.count(a);
        x.addRow(a, b);
        x.change(a, b, c);
        x.narrow(a);
        x.ask(a, b, c, c);
        x.setTolerance(a, b);
        x.stop(a);
        x.drop(a);
        x.setPlan(a);
        x.read(a);
        x.readFrom(a);
        x.type((char) a);
        x.addBlock();
        x.undo();
        x.restore();
        x.readOn();
        x.forget();
        x.keep();
    }

    /** Every call with every odd argument; no object is used for more than its 512 calls. */
    private static void oddArguments() {
        int thrown = 0;
        for (int state = 0; state < 3; state++) {
            for (int a : ODD) {
                for (int b : ODD) {
                    SureAnswers x = inState(state);
                    for (int i = 0; i < ODD.length; i++) {
                        if (i % 12 == 11) {
                            x = inState(state);
                        }
                        try {
                            callAll(x, a, b, ODD[i]);
                        } catch (RuntimeException e) {
                            thrown++;
                            System.out.println("calls with " + a + ", " + b + ", " + ODD[i] + " threw " + e);
                        }
                    }
                }
            }
        }
        C.due("calls that threw", thrown, 0);
    }

    /** What the 512 calls of an object make stays far below the room of 7.3 million fields. */
    private static void fewObjectsAreMade() {
        java.lang.management.ThreadMXBean bean = java.lang.management.ManagementFactory.getThreadMXBean();
        if (!(bean instanceof com.sun.management.ThreadMXBean)) {
            return;
        }
        com.sun.management.ThreadMXBean threads = (com.sun.management.ThreadMXBean) bean;
        inState(2);
        long before = threads.getThreadAllocatedBytes(Thread.currentThread().getId());
        SureAnswers x = inState(2);
        for (int i = 0; i < 12; i++) {
            callAll(x, i % 6, i % 7, i % 5);
        }
        long made = threads.getThreadAllocatedBytes(Thread.currentThread().getId()) - before;
        C.due("bytes made by an object and its calls, " + made + ", are few", made < 4 * 7300000 ? 1 : 0, 1);
    }

    /** What LANGUAGE.md rules out and can be seen from single words. */
    private static void rules(String path) throws IOException {
        String source = Files.readString(Path.of(path))
                .replaceAll("(?s)/\\*.*?\\*/", " ").replaceAll("//[^\n]*", " ");
        String[] forbidden = {"throw", "throws", "try", "catch", "finally", "synchronized", "assert", "package",
            "protected", "native", "volatile", "\\w+Exact", "equals\\s*\\(\\s*Object", "hashCode", "System\\.(?!arraycopy)"};
        for (String word : forbidden) {
            C.due("the source does without " + word,
                    Pattern.compile("\\b" + word + (word.endsWith(")") ? "" : "\\b")).matcher(source).find() ? 1 : 0, 0);
        }
        C.due("no method reference", source.contains("::") ? 1 : 0, 0);
        C.due("no lambda", Pattern.compile("(?m)^(?!\\s*(case|default)\\b).*->").matcher(source).find() ? 1 : 0, 0);
        C.due("signs from 1 to 127 alone", source.chars().allMatch(c -> c >= 1 && c <= 127) ? 1 : 0, 1);
        C.due("one public class", source.split("\\bpublic (final )?class\\b", -1).length - 1, 1);
    }

    public static void main(String[] args) throws ReflectiveOperationException, IOException {
        members();
        oddArguments();
        fewObjectsAreMade();
        if (args.length > 0) {
            rules(args[0]);
        }
        C.end();
    }
}
