import java.io.IOException;
import java.lang.reflect.Constructor;
import java.lang.reflect.Field;
import java.lang.reflect.Method;
import java.lang.reflect.Modifier;
import java.nio.file.Files;
import java.nio.file.Path;
import java.util.Arrays;
import java.util.List;
import java.util.Set;
import java.util.TreeSet;
import java.util.regex.Matcher;
import java.util.regex.Pattern;

/** The face of the program is the document's, and its source keeps the rules that words can show. */
public final class FaceTest {
    private static final Path DOCUMENT = Path.of("../shared/DOC.md");
    private static final Path SOURCE = Path.of("src/main/java/Couplet.java");
    private static final Pattern METHOD =
            Pattern.compile("^    public (\\w+) (\\w+)\\((.*?)\\)(?: throws (.*?))?;$", Pattern.MULTILINE);
    private static final Set<String> IMPORTS =
            Set.of("import java.util.ArrayList;", "import java.util.NoSuchElementException;");
    private static final String[] BARRED = {
        "try", "catch", "finally", "synchronized", "assert", "protected", "instanceof", "Object",
        "equals", "hashCode", "toString", "package", "Exact", "->", "::", "static {", "@", "Arrays."};

    private static int wrong = 0;

    public static void main(String[] args) throws IOException {
        methods();
        members();
        classesInside();
        source();
        System.out.println(wrong == 0 ? "the face is as due" : wrong + " faults of the face");
        if (wrong != 0) {
            System.exit(1);
        }
    }

    private static void due(boolean holds, String what) {
        if (!holds) {
            wrong++;
            System.out.println("not so: " + what);
        }
    }

    private static void methods() throws IOException {
        Set<String> want = new TreeSet<>();
        Matcher face = METHOD.matcher(Files.readString(DOCUMENT));
        while (face.find()) {
            String parameters = face.group(3).replaceAll("(\\w+) \\w+", "$1");
            String thrown = face.group(4) == null ? "" : face.group(4);
            want.add(signature(face.group(1), face.group(2), parameters, List.of(thrown.split(", "))));
        }
        Set<String> got = new TreeSet<>();
        for (Method method : Couplet.class.getDeclaredMethods()) {
            if (!Modifier.isPrivate(method.getModifiers())) {
                due(method.getModifiers() == Modifier.PUBLIC, "public alone: " + method);
                got.add(signature(method.getReturnType().getName(), method.getName(),
                        names(method.getParameterTypes()), Arrays.asList(names(method.getExceptionTypes()).split(", "))));
            }
        }
        due(want.size() == 36, "36 methods in the document, found " + want.size());
        due(want.equals(got), "the methods are " + want + ", found " + got);
    }

    private static String signature(String type, String name, String parameters, List<String> thrown) {
        return type + " " + name + "(" + parameters + ") " + new TreeSet<>(thrown);
    }

    private static String names(Class<?>[] classes) {
        StringBuilder line = new StringBuilder();
        for (Class<?> one : classes) {
            line.append(line.length() == 0 ? "" : ", ").append(one.getSimpleName());
        }
        return line.toString();
    }

    private static void members() {
        due(Couplet.class.getModifiers() == (Modifier.PUBLIC | Modifier.FINAL), "public and final");
        due(Couplet.class.getSuperclass() == Object.class, "extends nothing");
        due(Couplet.class.getInterfaces().length == 0, "implements nothing");
        Constructor<?>[] constructors = Couplet.class.getDeclaredConstructors();
        due(constructors.length == 1 && constructors[0].getParameterCount() == 0
                && Modifier.isPublic(constructors[0].getModifiers()), "one constructor, public");
        Set<String> open = new TreeSet<>();
        Set<String> closed = new TreeSet<>();
        for (Method method : Couplet.class.getDeclaredMethods()) {
            (Modifier.isPrivate(method.getModifiers()) ? closed : open).add(method.getName());
        }
        closed.retainAll(open);
        due(closed.isEmpty(), "private methods with names of public ones: " + closed);
        for (Field field : Couplet.class.getDeclaredFields()) {
            due(Modifier.isPrivate(field.getModifiers()), "private: " + field);
        }
    }

    private static void classesInside() {
        Class<?>[] inside = Couplet.class.getDeclaredClasses();
        due(inside.length <= 12, "at most twelve classes");
        for (Class<?> one : inside) {
            int modifiers = one.getModifiers();
            due(Modifier.isStatic(modifiers) && !Modifier.isPublic(modifiers), "static, not public: " + one);
            due(one.getDeclaredFields().length <= 20, "at most twenty fields: " + one);
            for (Field field : one.getDeclaredFields()) {
                due(!Modifier.isStatic(field.getModifiers()) || Modifier.isFinal(field.getModifiers()),
                        "final: " + field);
            }
        }
    }

    private static void source() throws IOException {
        String text = Files.readString(SOURCE);
        for (String line : text.split("\n")) {
            due(!line.startsWith("import ") || IMPORTS.contains(line), "an import that is allowed: " + line);
        }
        String code = text.replaceAll("(?s)/\\*.*?\\*/", "").replaceAll("//[^\n]*", "").replaceAll("\"[^\"]*\"", "");
        for (String word : BARRED) {
            String edge = Character.isLetter(word.charAt(0)) ? "\\b" : "";
            boolean found = Pattern.compile(edge + Pattern.quote(word) + (word.endsWith(".") ? "" : edge))
                    .matcher(code).find();
            due(!found, "no " + word + " in the source");
        }
        due(text.chars().allMatch(c -> c == '\n' || c >= ' ' && c <= '~'), "plain signs alone");
    }
}
