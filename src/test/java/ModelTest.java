import java.util.ArrayList;
import java.util.Arrays;
import java.util.List;
import java.util.NoSuchElementException;

/**
 * Long runs of mixed calls, right and wrong ones, each answered by a Couplet and by a model that
 * follows the document word by word and is written apart from the program.
 */
public final class ModelTest {
    private static final int RUNS = 3000;
    private static final int CALLS = 512;
    private static final String[] WRITES = {
        "insert", "type", "type", "delete", "erase", "undo", "moveCursor"};
    private static final String[] DELIVERIES = {"deliverUp", "deliverDown", "deliverAll"};
    private static final String[] QUESTIONS = {
        "length", "charAt", "ownerAt", "lengthByHistory", "charByHistory", "centreLength",
        "centreChar", "cursor", "mark", "revision", "sent", "waiting", "runs", "up", "down", "kept",
        "centreRevision", "historyEnd", "historySize", "historyKind", "historyPosition", "agree",
        "distance", "distanceByWays", "ownShare", "meanRun", "textNumber"};

    private static long state;
    private static int wrong = 0;

    public static void main(String[] args) {
        for (int run = 0; run < RUNS && wrong < 5; run++) {
            state = 1000003L * run + 17;
            walk(run);
        }
        System.out.println(wrong == 0 ? "the model agrees" : wrong + " runs differ from the model");
        if (wrong != 0) {
            System.exit(1);
        }
    }

    private static int below(int bound) {
        state = state * 6364136223846793005L + 1442695040888963407L;
        return (int) ((state >>> 33) % bound);
    }

    /** Runs differ in how much they write, deliver and ask, so that all limits are met. */
    private static void walk(int run) {
        Couplet couplet = new Couplet();
        Model model = new Model();
        int writing = 10 + 20 * (run % 4);
        int delivering = run % 7 == 0 ? 1 : 5 + 10 * (run % 3);
        int deleting = run % 5;
        List<String> told = new ArrayList<>();
        for (int i = 0; i < CALLS; i++) {
            int die = below(100);
            String name;
            if (die < writing) {
                name = deleting == 0 ? WRITES[below(3)] : WRITES[below(WRITES.length)];
            } else if (die < writing + delivering) {
                name = DELIVERIES[below(10) == 0 ? 2 : below(2)];
            } else {
                name = QUESTIONS[below(QUESTIONS.length)];
            }
            int[] given = arguments(name, model);
            String got = answer(couplet, name, given);
            String due = model.answer(name, given);
            told.add(name + Arrays.toString(given) + " = " + got);
            if (!got.equals(due)) {
                System.out.println("run " + run + ": " + told + ", due is " + due);
                wrong++;
                return;
            }
        }
    }

    private static int[] arguments(String name, Model model) {
        int end = below(40) == 0 ? below(4) - 1 : below(2);
        int length = model.texts.get(end == 1 ? 1 : 0).size();
        int position = below(length + 2) - (below(20) == 0 ? 1 : 0);
        char character = (char) (below(40) == 0 ? new int[] {31, 32, 126, 127, 0, 233}[below(6)] : 'a' + below(3));
        int message = below(model.history.size() + 2) - (below(20) == 0 ? 1 : 0);
        switch (name) {
            case "insert": return new int[] {end, position, character};
            case "type": return new int[] {end, character};
            case "centreChar": return new int[] {below(model.texts.get(2).size() + 2) - (below(20) == 0 ? 1 : 0)};
            case "delete": case "moveCursor": case "charAt": case "ownerAt": case "charByHistory":
                return new int[] {end, position};
            case "historyEnd": case "historySize": return new int[] {message};
            case "historyKind": case "historyPosition":
                return new int[] {message, below(3) - (below(20) == 0 ? 1 : 0)};
            case "deliverAll": case "centreLength": case "centreRevision": case "agree":
            case "distance": case "distanceByWays": case "meanRun": return new int[0];
            default: return new int[] {end};
        }
    }

    private static String answer(Couplet x, String name, int[] g) {
        try {
            switch (name) {
                case "insert": return "" + x.insert(g[0], g[1], (char) g[2]);
                case "delete": return "" + (int) x.delete(g[0], g[1]);
                case "type": return "" + x.type(g[0], (char) g[1]);
                case "erase": return "" + (int) x.erase(g[0]);
                case "moveCursor": return "" + x.moveCursor(g[0], g[1]);
                case "undo": return "" + x.undo(g[0]);
                case "deliverUp": return "" + x.deliverUp(g[0]);
                case "deliverDown": return "" + (int) x.deliverDown(g[0]);
                case "deliverAll": return "" + x.deliverAll();
                case "length": return "" + x.length(g[0]);
                case "charAt": return "" + (int) x.charAt(g[0], g[1]);
                case "ownerAt": return "" + x.ownerAt(g[0], g[1]);
                case "lengthByHistory": return "" + x.lengthByHistory(g[0]);
                case "charByHistory": return "" + (int) x.charByHistory(g[0], g[1]);
                case "centreLength": return "" + x.centreLength();
                case "centreChar": return "" + (int) x.centreChar(g[0]);
                case "cursor": return "" + x.cursor(g[0]);
                case "mark": return "" + x.mark(g[0]);
                case "revision": return "" + x.revision(g[0]);
                case "sent": return "" + x.sent(g[0]);
                case "waiting": return "" + x.waiting(g[0]);
                case "runs": return "" + x.runs(g[0]);
                case "up": return "" + x.up(g[0]);
                case "down": return "" + x.down(g[0]);
                case "kept": return "" + x.kept(g[0]);
                case "centreRevision": return "" + x.centreRevision();
                case "historyEnd": return "" + x.historyEnd(g[0]);
                case "historySize": return "" + x.historySize(g[0]);
                case "historyKind": return "" + (int) x.historyKind(g[0], g[1]);
                case "historyPosition": return "" + x.historyPosition(g[0], g[1]);
                case "agree": return "" + x.agree();
                case "distance": return "" + x.distance();
                case "distanceByWays": return "" + x.distanceByWays();
                case "ownShare": return "" + x.ownShare(g[0]);
                case "meanRun": return "" + x.meanRun();
                case "textNumber": return "" + x.textNumber(g[0]);
                default: return "no such call";
            }
        } catch (RuntimeException e) {
            // The right name does not do if it was the library or the machine that threw.
            return Checks.thrownByProgram(e) ? e.getClass().getName() : "not thrown by the program: " + e;
        }
    }

    /** An operation that never changes: its kind, position, character by index, and end. */
    private record Op(char kind, int at, int id, int end) {
        Op by(Op b) {
            if (kind == 'i' && b.kind == 'i') {
                return b.at < at || b.at == at && b.end == 0 ? to(at + 1) : this;
            }
            if (kind == 'i' && b.kind == 'd') {
                return b.at < at ? to(at - 1) : this;
            }
            if (kind == 'd' && b.kind == 'i') {
                return b.at <= at ? to(at + 1) : this;
            }
            if (kind == 'd' && b.kind == 'd') {
                return b.at < at ? to(at - 1) : b.at == at ? new Op('n', -1, id, end) : this;
            }
            return this;
        }

        private Op to(int position) {
            return new Op(kind, position, id, end);
        }

        int shifted(int place) {
            return kind == 'i' && at < place ? place + 1 : kind == 'd' && at < place ? place - 1 : place;
        }

        int behind() {
            return kind == 'i' ? at + 1 : at;
        }
    }

    private record Sent(int end, int revision, List<Op> ops) {
    }

    private static final class Model {
        final List<List<Integer>> texts = List.of(new ArrayList<>(), new ArrayList<>(), new ArrayList<>());
        final List<Character> looks = new ArrayList<>();
        final List<Integer> owners = new ArrayList<>();
        final List<Sent> history = new ArrayList<>();
        final List<List<Sent>> ups = List.of(new ArrayList<>(), new ArrayList<>());
        /** A message to an end; null stands for an acknowledgement. */
        final List<List<List<Op>>> downs = List.of(new ArrayList<>(), new ArrayList<>());
        final List<List<Op>> sents = List.of(new ArrayList<>(), new ArrayList<>());
        final List<List<Op>> waits = List.of(new ArrayList<>(), new ArrayList<>());
        /** For each kept operation: 1 if it inserted, the character, the place of a deletion. */
        final List<List<int[]>> kepts = List.of(new ArrayList<>(), new ArrayList<>());
        final int[] cursors = new int[2];
        final int[] marks = new int[2];
        final int[] revisions = new int[2];
        int made = 0;

        String answer(String name, int[] g) {
            try {
                return "" + ask(name, g);
            } catch (RuntimeException e) {
                return e.getClass().getName();
            }
        }

        private Object ask(String name, int[] g) {
            switch (name) {
                case "deliverAll": return all();
                case "centreLength": return texts.get(2).size();
                case "centreChar": return (int) looks.get(in(2, g[0]));
                case "centreRevision": return history.size();
                case "historyEnd": return message(g[0]).end;
                case "historySize": return message(g[0]).ops.size();
                case "historyKind": return (int) operation(g[0], g[1]).kind;
                case "historyPosition": return operation(g[0], g[1]).at;
                case "agree": return shown(texts.get(0)).equals(shown(texts.get(1)))
                        && shown(texts.get(0)).equals(shown(texts.get(2)));
                case "distance": case "distanceByWays":
                    return changes(shown(texts.get(0)), shown(texts.get(1)));
                case "meanRun": return mean();
                default:
            }
            int end = g[0];
            if (end < 0 || end > 1) {
                throw new IndexOutOfBoundsException();
            }
            List<Integer> text = texts.get(end);
            switch (name) {
                case "insert":
                    if (g[1] < 0 || g[1] > text.size()) {
                        throw new IllegalArgumentException();
                    }
                    put(end, g[1], (char) g[2], true);
                    return text.size();
                case "type":
                    put(end, cursors[end], (char) g[1], true);
                    return cursors[end];
                case "delete":
                    in(end, g[1]);
                    return (int) take(end, g[1], true);
                case "erase":
                    if (cursors[end] == 0) {
                        throw new NoSuchElementException();
                    }
                    return (int) take(end, cursors[end] - 1, true);
                case "moveCursor":
                    if (g[1] < 0 || g[1] > text.size()) {
                        throw new IllegalArgumentException();
                    }
                    int before = cursors[end];
                    cursors[end] = g[1];
                    return before;
                case "undo": return undo(end);
                case "deliverUp": return goUp(end);
                case "deliverDown": return (int) goDown(end);
                case "length": return text.size();
                case "charAt": return (int) looks.get(in(end, g[1]));
                case "ownerAt": return owners.get(in(end, g[1]));
                case "lengthByHistory": return byHistory(end).size();
                case "charByHistory":
                    List<Integer> again = byHistory(end);
                    if (g[1] < 0 || g[1] >= again.size()) {
                        throw new IllegalArgumentException();
                    }
                    return (int) looks.get(again.get(g[1]));
                case "cursor": return cursors[end];
                case "mark": return marks[end];
                case "revision": return revisions[end];
                case "sent": return sents.get(end).size();
                case "waiting": return waits.get(end).size();
                case "runs": return runs(end);
                case "up": return ups.get(end).size();
                case "down": return downs.get(end).size();
                case "kept": return kepts.get(end).size();
                case "ownShare": return share(end);
                case "textNumber":
                    long number = 7;
                    for (char c : shown(text).toCharArray()) {
                        number = 31 * number + c;
                    }
                    return number;
                default: throw new IllegalStateException("no such call " + name);
            }
        }

        private int in(int text, int position) {
            if (position < 0 || position >= texts.get(text).size()) {
                throw new IllegalArgumentException();
            }
            return texts.get(text).get(position);
        }

        private Sent message(int index) {
            if (index < 0 || index >= history.size()) {
                throw new NoSuchElementException();
            }
            return history.get(index);
        }

        private Op operation(int message, int index) {
            List<Op> ops = message(message).ops;
            if (index < 0 || index >= ops.size()) {
                throw new IndexOutOfBoundsException();
            }
            return ops.get(index);
        }

        private String shown(List<Integer> text) {
            StringBuilder line = new StringBuilder();
            for (int id : text) {
                line.append(looks.get(id));
            }
            return line.toString();
        }

        private static int changes(String a, String b) {
            int[][] common = new int[a.length() + 1][b.length() + 1];
            for (int i = 1; i <= a.length(); i++) {
                for (int j = 1; j <= b.length(); j++) {
                    common[i][j] = a.charAt(i - 1) == b.charAt(j - 1) ? common[i - 1][j - 1] + 1
                            : Math.max(common[i - 1][j], common[i][j - 1]);
                }
            }
            return a.length() + b.length() - 2 * common[a.length()][b.length()];
        }

        private double mean() {
            if (history.isEmpty()) {
                throw new ArithmeticException();
            }
            return (double) history.stream().mapToInt(m -> m.ops.size()).sum() / history.size();
        }

        private float share(int end) {
            if (texts.get(end).isEmpty()) {
                throw new ArithmeticException();
            }
            float own = texts.get(end).stream().filter(id -> owners.get(id) == end).count();
            return own / texts.get(end).size();
        }

        private static void perform(Op op, List<Integer> text) {
            if (op.kind == 'i') {
                text.add(op.at, op.id);
            } else if (op.kind == 'd') {
                text.remove(op.at);
            }
        }

        private List<Integer> byHistory(int end) {
            List<Integer> text = new ArrayList<>();
            history.subList(0, revisions[end]).forEach(m -> m.ops.forEach(op -> perform(op, text)));
            sents.get(end).forEach(op -> perform(op, text));
            waits.get(end).forEach(op -> perform(op, text));
            return text;
        }

        private void put(int end, int at, char look, boolean keep) {
            if (look < 32 || look > 126) {
                throw new IllegalArgumentException();
            }
            if (texts.get(end).size() >= 60 || made >= 200) {
                throw new IllegalStateException();
            }
            looks.add(look);
            owners.add(end);
            own(new Op('i', at, looks.size() - 1, end), keep);
        }

        private char take(int end, int at, boolean keep) {
            if (made >= 200) {
                throw new IllegalStateException();
            }
            int id = texts.get(end).get(at);
            own(new Op('d', at, id, end), keep);
            return looks.get(id);
        }

        private void shiftKept(int end, Op op) {
            for (int[] kept : kepts.get(end)) {
                kept[2] = op.shifted(kept[2]);
            }
        }

        private void own(Op op, boolean keep) {
            int end = op.end;
            made++;
            perform(op, texts.get(end));
            cursors[end] = op.behind();
            marks[end] = op.shifted(marks[end]);
            shiftKept(end, op);
            if (keep) {
                kepts.get(end).add(new int[] {op.kind == 'i' ? 1 : 0, op.id, op.at});
            }
            if (sents.get(end).isEmpty()) {
                sents.get(end).add(op);
                ups.get(end).add(new Sent(end, revisions[end], List.of(op)));
            } else {
                waits.get(end).add(op);
            }
        }

        private boolean undo(int end) {
            List<int[]> kept = kepts.get(end);
            if (kept.isEmpty()) {
                throw new NoSuchElementException();
            }
            int[] last = kept.get(kept.size() - 1);
            int at = texts.get(end).indexOf(last[1]);
            if (last[0] == 1 && at >= 0) {
                take(end, at, false);
            } else if (last[0] == 0) {
                put(end, last[2], looks.get(last[1]), false);
            }
            kept.remove(last);
            return last[0] == 0 || at >= 0;
        }

        private int goUp(int end) {
            if (ups.get(end).isEmpty()) {
                throw new NoSuchElementException();
            }
            Sent message = ups.get(end).remove(0);
            List<Op> ops = message.ops;
            for (Sent later : history.subList(message.revision, history.size())) {
                ops = cross(ops, later.ops).get(0);
            }
            ops.forEach(op -> perform(op, texts.get(2)));
            history.add(new Sent(end, message.revision, ops));
            downs.get(end).add(null);
            downs.get(1 - end).add(ops);
            return ops.size();
        }

        /** Both rows, each one transformed by the other one. */
        private static List<List<Op>> cross(List<Op> row, List<Op> others) {
            List<Op> now = new ArrayList<>(row);
            List<Op> became = new ArrayList<>();
            for (Op other : others) {
                Op b = other;
                for (int i = 0; i < now.size(); i++) {
                    Op a = now.get(i);
                    now.set(i, a.by(b));
                    b = b.by(a);
                }
                became.add(b);
            }
            return List.of(now, became);
        }

        private char goDown(int end) {
            if (downs.get(end).isEmpty()) {
                throw new NoSuchElementException();
            }
            List<Op> ops = downs.get(end).remove(0);
            revisions[end]++;
            List<Op> sent = sents.get(end);
            List<Op> waits = this.waits.get(end);
            if (ops == null) {
                sent.clear();
                if (!waits.isEmpty()) {
                    List<Op> run = waits.subList(0, runSize(waits));
                    sent.addAll(run);
                    run.clear();
                    ups.get(end).add(new Sent(end, revisions[end], List.copyOf(sent)));
                }
                return 'a';
            }
            List<List<Op>> bySent = cross(sent, ops);
            List<List<Op>> byWaiting = cross(waits, bySent.get(1));
            sent.clear();
            sent.addAll(bySent.get(0));
            waits.clear();
            waits.addAll(byWaiting.get(0));
            waits.removeIf(op -> op.kind == 'n');
            for (Op op : byWaiting.get(1)) {
                perform(op, texts.get(end));
                cursors[end] = op.shifted(cursors[end]);
                marks[end] = op.kind == 'n' ? marks[end] : op.behind();
                shiftKept(end, op);
            }
            return 'o';
        }

        private static int runSize(List<Op> ops) {
            int size = 1;
            while (size < ops.size()) {
                Op before = ops.get(size - 1);
                Op op = ops.get(size);
                boolean typed = before.kind == 'i' && op.kind == 'i' && op.at == before.at + 1;
                boolean erased = before.kind == 'd' && op.kind == 'd'
                        && (op.at == before.at || op.at + 1 == before.at);
                if (!typed && !erased) {
                    return size;
                }
                size++;
            }
            return size;
        }

        private int runs(int end) {
            List<Op> left = waits.get(end);
            int count = 0;
            while (!left.isEmpty()) {
                left = left.subList(runSize(left), left.size());
                count++;
            }
            return count;
        }

        private int all() {
            int count = 0;
            while (true) {
                if (!ups.get(0).isEmpty()) {
                    goUp(0);
                } else if (!ups.get(1).isEmpty()) {
                    goUp(1);
                } else if (!downs.get(0).isEmpty()) {
                    goDown(0);
                } else if (!downs.get(1).isEmpty()) {
                    goDown(1);
                } else {
                    return count;
                }
                count++;
            }
        }
    }
}
