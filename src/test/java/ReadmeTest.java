import java.io.IOException;
import java.io.UncheckedIOException;
import java.lang.reflect.InvocationTargetException;
import java.lang.reflect.Method;
import java.lang.reflect.Modifier;
import java.nio.file.Files;
import java.nio.file.Path;
import java.util.List;
import java.util.Set;
import java.util.TreeSet;
import java.util.regex.Matcher;
import java.util.regex.Pattern;
import java.util.stream.Collectors;
import java.util.stream.Stream;

/** What README.md says is so: the answers of its example, the calls there are, and the tests. */
public final class ReadmeTest extends Checks {
    private static final Path PAGE = Path.of("README.md");
    private static final Path TESTS = Path.of("src/test/java");
    /** A call of the example, with the answer that stands behind it up to a colon or the line's end. */
    private static final Pattern CALL = Pattern.compile("x\\.(\\w+)\\((.*)\\); *// ('.'|[^:]+)(?:: .+)?");
    private static final Pattern QUOTED_WORD = Pattern.compile("`(\\w+)`");

    public static void main(String[] args) throws IOException {
        String page = Files.readString(PAGE);
        example(page);
        Set<String> words = new TreeSet<>();
        Matcher word = QUOTED_WORD.matcher(page);
        while (word.find()) {
            words.add(word.group(1));
        }
        calls(words);
        tests(words);
        finish("the page is right");
    }

    private static void example(String page) {
        begin("the example");
        String[] parts = page.split("```(?:java\n)?");
        due(3, parts.length);
        List<String> lines = List.of(parts[1].split("\n"));
        due("Couplet x = new Couplet();", lines.get(0));
        Couplet x = new Couplet();
        for (String line : lines.subList(1, lines.size())) {
            Matcher call = CALL.matcher(line);
            due("a call: " + line, (call.matches() ? "a call: " : "something else: ") + line);
            due(line + " " + call.group(3), line + " " + answer(x, call.group(1), call.group(2).split(", ")));
        }
    }

    private static String answer(Couplet x, String name, String[] words) {
        Object[] values = Stream.of(words).filter(word -> !word.isEmpty()).map(ReadmeTest::value).toArray();
        try {
            Object answer = method(name).invoke(x, values);
            return answer instanceof Character ? "'" + answer + "'" : "" + answer;
        } catch (InvocationTargetException e) {
            return "" + e.getCause();
        } catch (IllegalAccessException | IllegalArgumentException e) {
            return "" + e;
        }
    }

    private static Object value(String word) {
        return word.startsWith("'") ? (Object) word.charAt(1) : (Object) Integer.valueOf(word);
    }

    private static Method method(String name) {
        for (Method method : Couplet.class.getMethods()) {
            if (method.getName().equals(name)) {
                return method;
            }
        }
        throw new IllegalArgumentException("no call of this name: " + name);
    }

    private static void calls(Set<String> words) {
        begin("the calls that are named");
        for (Method method : Couplet.class.getDeclaredMethods()) {
            String name = method.getName();
            if (Modifier.isPublic(method.getModifiers())) {
                due(name + " is named", name + (words.contains(name) ? " is named" : " is not named"));
            }
        }
    }

    private static void tests(Set<String> words) {
        begin("the tests that are named");
        Set<String> named = words.stream().filter(word -> word.matches("[A-Z]\\w*")).collect(Collectors.toSet());
        due(new TreeSet<>(names()), new TreeSet<>(named));
    }

    private static Set<String> names() {
        try (Stream<Path> files = Files.list(TESTS)) {
            return files.map(file -> file.getFileName().toString().replace(".java", "")).collect(Collectors.toSet());
        } catch (IOException e) {
            throw new UncheckedIOException(e);
        }
    }
}
