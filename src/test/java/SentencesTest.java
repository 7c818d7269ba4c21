import java.io.IOException;
import java.lang.reflect.Method;
import java.nio.file.Files;
import java.nio.file.Path;
import java.util.ArrayList;
import java.util.LinkedHashMap;
import java.util.List;
import java.util.Map;
import java.util.Set;
import java.util.TreeSet;

/** Each sentence of the document's terms has functions of EdgesTest that fail when it is broken. */
public final class SentencesTest extends Checks {
    private static final Path DOCUMENT = Path.of("../shared/DOC.md");
    private static final Path TABLE = Path.of("src/test/sentences.txt");

    public static void main(String[] args) throws IOException {
        Map<String, List<String>> table = table();
        begin("sentences of the document, in its order");
        List<String> written = written();
        List<String> listed = new ArrayList<>(table.keySet());
        for (int i = 0; i < written.size() || i < listed.size(); i++) {
            due(i < written.size() ? written.get(i) : "none", i < listed.size() ? listed.get(i) : "none");
        }
        Set<String> functions = functions();
        table.forEach((sentence, names) -> {
            begin(sentence);
            due("some functions", names.isEmpty() ? "no functions" : "some functions");
            for (String name : names) {
                due(name + " is there", name + (functions.contains(name) ? " is there" : " is missing"));
            }
        });
        finish("all sentences have their tests");
    }

    /** The names of functions that stand below each sentence. */
    private static Map<String, List<String>> table() throws IOException {
        Map<String, List<String>> table = new LinkedHashMap<>();
        List<String> names = new ArrayList<>();
        for (String line : Files.readAllLines(TABLE)) {
            if (line.startsWith("    ")) {
                names.addAll(List.of(line.strip().split(" ")));
            } else if (!line.isEmpty() && !line.startsWith("#")) {
                names = new ArrayList<>();
                table.put(line, names);
            }
        }
        return table;
    }

    /** The sentences of "What it is" and "Terms"; those of a promise are tested by functions named after it. */
    private static List<String> written() throws IOException {
        StringBuilder text = new StringBuilder();
        String section = "";
        for (String line : Files.readAllLines(DOCUMENT)) {
            if (line.startsWith("## ")) {
                section = line.substring(3);
            } else if (!line.startsWith("<h2>") && (section.equals("What it is") || section.equals("Terms"))) {
                text.append(line).append(' ');
            }
        }
        return List.of(text.toString().strip().replaceAll("\\s+", " ").split("(?<=\\.) (?=[A-Z])"));
    }

    private static Set<String> functions() {
        Set<String> names = new TreeSet<>();
        for (Class<?> cases : EdgesTest.CASES) {
            for (Method method : cases.getDeclaredMethods()) {
                names.add(method.getName());
            }
        }
        return names;
    }
}
