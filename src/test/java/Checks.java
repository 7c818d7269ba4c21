import java.lang.reflect.InvocationTargetException;
import java.lang.reflect.Method;
import java.util.Map;
import java.util.NoSuchElementException;
import java.util.TreeMap;

/** What the tests share: answers compared with those that are due, and objects to begin with. */
abstract class Checks {
    static final Class<?> INDEX = IndexOutOfBoundsException.class;
    static final Class<?> ARGUMENT = IllegalArgumentException.class;
    static final Class<?> STATE = IllegalStateException.class;
    static final Class<?> ELEMENT = NoSuchElementException.class;
    static final Class<?> ARITHMETIC = ArithmeticException.class;

    private static String about = "";
    private static int row = 0;
    private static int wrong = 0;

    interface Call {
        Object answer();
    }

    interface EndCall {
        Object answer(int end);
    }

    // Comparing

    /** Says what the next rows are about. */
    static void begin(String what) {
        about = what;
        row = 0;
    }

    static void due(Object want, Object got) {
        row++;
        if (!want.equals(got)) {
            wrong++;
            System.out.println(about + ", row " + row + ": answered " + got + ", due is " + want);
        }
    }

    static void dueThrow(Class<?> want, Call call) {
        Object got;
        try {
            got = call.answer();
        } catch (RuntimeException e) {
            got = thrownByProgram(e) ? e.getClass() : "the library's " + e;
        }
        due(want, got);
    }

    /** An exception of the library or the machine is never an answer, though it has the right name. */
    static boolean thrownByProgram(RuntimeException e) {
        if (e.getStackTrace().length == 0) {
            return false;
        }
        String thrower = e.getStackTrace()[0].getClassName();
        return thrower.equals("Couplet") || thrower.startsWith("Couplet$");
    }

    /** Each call throws, and all of them together leave the object as it was. */
    static void dueRefused(Class<?> want, Couplet x, Call... calls) {
        String before = state(x);
        for (Call call : calls) {
            dueThrow(want, call);
        }
        due(before, state(x));
    }

    /** The ends 0 and 1 are there, the numbers beside them and the outermost ones are not. */
    static void dueTwoEnds(Couplet x, EndCall call) {
        dueRefused(INDEX, x, () -> call.answer(-1), () -> call.answer(2),
                () -> call.answer(Integer.MIN_VALUE), () -> call.answer(Integer.MAX_VALUE));
        for (int end = 0; end < 2; end++) {
            call.answer(end);
        }
    }

    /** Ends the program with exit code 1 if anything was not as due. */
    static void finish(String allIsWell) {
        System.out.println(wrong == 0 ? allIsWell : wrong + " answers are not as due");
        if (wrong != 0) {
            System.exit(1);
        }
    }

    /** Runs each function of a class that is named after a promise; tells how many there are for each. */
    static Map<Integer, Integer> runAll(Class<?> cases) {
        Map<Integer, Integer> counts = new TreeMap<>();
        Map<String, Method> byName = new TreeMap<>();
        for (Method method : cases.getDeclaredMethods()) {
            if (method.getName().startsWith("promise")) {
                byName.put(method.getName(), method);
            }
        }
        for (Method method : byName.values()) {
            runOne(method);
            counts.merge(Integer.valueOf(method.getName().replaceAll("\\D*(\\d+)_.*", "$1")), 1, Integer::sum);
        }
        return counts;
    }

    private static void runOne(Method method) {
        begin(method.getName());
        try {
            method.setAccessible(true);
            method.invoke(null);
        } catch (InvocationTargetException e) {
            due("an answer", "" + e.getCause());
        } catch (IllegalAccessException e) {
            due("a function to call", "" + e);
        }
        if (row == 0) {
            due("at least one row", "none");
        }
    }

    // Objects to begin with

    static Couplet typed(int end, String text) {
        Couplet x = new Couplet();
        typeInto(x, end, text);
        return x;
    }

    /** The same text everywhere, all of the end 0, with all cursors at 0 and nothing under way. */
    static Couplet shared(String text) {
        Couplet x = typed(0, text);
        x.deliverAll();
        x.moveCursor(0, 0);
        return x;
    }

    static void typeInto(Couplet x, int end, String text) {
        for (char c : text.toCharArray()) {
            x.type(end, c);
        }
    }

    /** One operation of an end: the character that it inserts is its number. */
    static void act(Couplet x, int end, char kind, int position) {
        if (kind == 'i') {
            x.insert(end, position, (char) ('0' + end));
        } else {
            x.delete(end, position);
        }
    }

    /** 60 characters at the end 0 and 200 operations in all. */
    static Couplet exhausted() {
        Couplet x = new Couplet();
        for (int i = 0; i < 59; i++) {
            x.type(0, 'a');
        }
        for (int i = 0; i < 70; i++) {
            x.type(1, 'b');
            x.erase(1);
        }
        x.type(0, 'a');
        return x;
    }

    /** So many operations, every other one at the end 1; an end has one character or none. */
    static Couplet made(int operations) {
        Couplet x = new Couplet();
        for (int i = 0; i < operations; i++) {
            if (i % 4 < 2) {
                x.type(i % 2, 'm');
            } else {
                x.erase(i % 2);
            }
        }
        return x;
    }

    /** The end 0 wrote 60 characters, and the end 1 some more, which stand behind them. */
    static Couplet longer(int more) {
        Couplet x = typed(0, "x".repeat(60));
        typeInto(x, 1, "y".repeat(more));
        x.deliverAll();
        return x;
    }

    // What is seen of an object

    static String text(Couplet x, int end) {
        StringBuilder line = new StringBuilder();
        int length = x.length(end);
        for (int i = 0; i < length; i++) {
            line.append(x.charAt(end, i));
        }
        return line.toString();
    }

    static String owners(Couplet x, int end) {
        StringBuilder line = new StringBuilder();
        int length = x.length(end);
        for (int i = 0; i < length; i++) {
            line.append(x.ownerAt(end, i));
        }
        return line.toString();
    }

    static String centre(Couplet x) {
        StringBuilder line = new StringBuilder();
        int length = x.centreLength();
        for (int i = 0; i < length; i++) {
            line.append(x.centreChar(i));
        }
        return line.toString();
    }

    static String byHistory(Couplet x, int end) {
        StringBuilder line = new StringBuilder();
        int length = x.lengthByHistory(end);
        for (int i = 0; i < length; i++) {
            line.append(x.charByHistory(end, i));
        }
        return line.toString();
    }

    static String message(Couplet x, int index) {
        StringBuilder line = new StringBuilder().append(x.historyEnd(index));
        int size = x.historySize(index);
        for (int i = 0; i < size; i++) {
            line.append(' ').append(x.historyKind(index, i)).append(x.historyPosition(index, i));
        }
        return line.toString();
    }

    /** All of an object in few calls, as it answers no more than 512. */
    static String state(Couplet x) {
        StringBuilder line = new StringBuilder();
        for (int end = 0; end < 2; end++) {
            line.append(" end ").append(end).append(": text ").append(x.length(end)).append('=')
                    .append(x.textNumber(end)).append(" by history ").append(x.lengthByHistory(end))
                    .append(" cursor ").append(x.cursor(end)).append(" mark ").append(x.mark(end))
                    .append(" revision ").append(x.revision(end)).append(" sent ").append(x.sent(end))
                    .append(" waiting ").append(x.waiting(end)).append(" in ").append(x.runs(end))
                    .append(" up ").append(x.up(end)).append(" down ").append(x.down(end))
                    .append(" kept ").append(x.kept(end));
            if (x.length(end) > 0) {
                line.append(" own ").append(x.ownShare(end));
            }
        }
        line.append(" centre: ").append(x.centreLength()).append(" revision ").append(x.centreRevision());
        line.append(" distance ").append(x.distance()).append(" agree ").append(x.agree());
        if (x.centreLength() > 0) {
            line.append(" from ").append(x.centreChar(0)).append(" to ").append(x.centreChar(x.centreLength() - 1));
        }
        int messages = x.centreRevision();
        if (messages > 0) {
            line.append(" mean ").append(x.meanRun()).append(" last from ").append(x.historyEnd(messages - 1))
                    .append(' ').append(x.historySize(messages - 1)).append(x.historyKind(messages - 1, 0))
                    .append(x.historyPosition(messages - 1, 0));
        }
        return line.toString();
    }
}
