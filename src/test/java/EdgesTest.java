import java.util.Map;
import java.util.TreeMap;

/** Each boundary case that the document names, in a function named after the promise and the case. */
public final class EdgesTest extends Checks {
    private static final int PROMISES = 37;
    static final Class<?>[] CASES = {
        WritingEdges.class, UndoEdges.class, DeliveryEdges.class, StateEdges.class, AnswerEdges.class};

    public static void main(String[] args) {
        Map<Integer, Integer> counts = new TreeMap<>();
        for (Class<?> cases : CASES) {
            runAll(cases).forEach((promise, count) -> counts.merge(promise, count, Integer::sum));
        }
        begin("boundary cases of each promise");
        for (int promise = 1; promise <= PROMISES; promise++) {
            String has = counts.containsKey(promise) ? " has some" : " has none";
            due("promise " + promise + " has some", "promise " + promise + has);
        }
        finish("all boundary cases hold: " + counts);
    }
}
