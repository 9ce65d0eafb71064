import java.io.IOException;
import java.lang.reflect.Constructor;
import java.lang.reflect.Field;
import java.lang.reflect.Method;
import java.lang.reflect.Modifier;
import java.nio.file.Files;
import java.nio.file.Path;
import java.util.Arrays;
import java.util.List;
import java.util.Set;
import java.util.TreeSet;
import java.util.stream.Collectors;

/**
 * The document from its first line to its last: its public face is that of the class, and each of its sentences has
 * tests that are there and run. Which ones stands in src/test/document.txt, with the document's words.
 */
public final class DocumentTest {
    private static final Path DOCUMENT = Path.of("../shared/DOC.md");
    private static final Path TABLE = Path.of("src/test/document.txt");
    private static final Checks t = new Checks("DocumentTest");

    public static void main(String[] args) throws IOException {
        List<String> document = Files.readAllLines(DOCUMENT);
        face(document);
        words(document);
        t.finish();
    }

    private static void face(List<String> document) {
        t.sentence("The public face");
        Class<?> c = SevenToAShadow.class;
        t.due("public final class", c.getModifiers(), Modifier.PUBLIC | Modifier.FINAL);
        t.due("of nothing else", c.getSuperclass() == Object.class && c.getInterfaces().length == 0, true);
        same("what the document tells and the class has", told(document), seen(c));
        for (Class<?> inside : c.getDeclaredClasses()) {
            int flags = inside.getModifiers();
            t.due(inside + " is static", Modifier.isStatic(flags), true);
            t.due(inside + " is no part of the face", flags & (Modifier.PUBLIC | Modifier.PROTECTED), 0);
        }
        t.sentence("The constants: NONE = -1");
        t.due("NONE", SevenToAShadow.NONE, -1);
    }

    /** The lines of the document's block of Java, without the names of parameters. */
    private static Set<String> told(List<String> document) {
        int first = document.indexOf("public final class SevenToAShadow {");
        t.due("the document's block of Java is found", first > 0, true);
        Set<String> all = new TreeSet<>();
        for (String line : document.subList(first + 1, document.size())) {
            if (line.equals("}")) {
                break;
            }
            all.add(line.strip().replaceAll("(int|boolean) \\w+(?=[,)])", "$1").replaceAll(" = .*|;$", ""));
        }
        return all;
    }

    /** All that is not private, in the document's form. */
    private static Set<String> seen(Class<?> c) {
        Set<String> all = new TreeSet<>();
        for (Field f : c.getDeclaredFields()) {
            if (!Modifier.isPrivate(f.getModifiers())) {
                all.add(Modifier.toString(f.getModifiers()) + " " + f.getType().getSimpleName() + " " + f.getName());
            }
        }
        for (Constructor<?> made : c.getDeclaredConstructors()) {
            all.add(Modifier.toString(made.getModifiers()) + " " + c.getSimpleName() + types(made.getParameterTypes()));
        }
        for (Method m : c.getDeclaredMethods()) {
            if (!Modifier.isPrivate(m.getModifiers())) {
                all.add(Modifier.toString(m.getModifiers()) + " " + m.getReturnType().getSimpleName() + " " + m.getName()
                    + types(m.getParameterTypes()));
            }
        }
        return all;
    }

    private static String types(Class<?>[] parameters) {
        return Arrays.stream(parameters).map(Class::getSimpleName).collect(Collectors.joining(", ", "(", ")"));
    }

    private static void same(String what, Set<String> want, Set<String> got) {
        Set<String> all = new TreeSet<>(want);
        all.addAll(got);
        for (String one : all) {
            t.due(what + ": " + one, got.contains(one), want.contains(one));
        }
        t.due(what + ": one constant, one constructor, 24 methods", got.size(), 26);
    }

    /** The table's words, one after another, are the document's; none is left over on either side. */
    private static void words(List<String> document) throws IOException {
        String left = plain(document);
        StringBuilder words = new StringBuilder();
        for (String line : Files.readAllLines(TABLE)) {
            if (line.startsWith("#") || line.isBlank()) {
                continue;
            }
            if (!line.startsWith("    ")) {
                words.append(words.length() == 0 ? "" : " ").append(line.strip());
                continue;
            }
            if (words.length() > 0) {
                t.sentence(words.toString());
                boolean begins = left.startsWith(words.toString());
                t.due("the document goes on with these words", begins, true);
                if (!begins) {
                    System.out.println("it goes on: " + left.substring(0, Math.min(200, left.length())));
                    return;
                }
                left = left.substring(words.length()).strip();
                words.setLength(0);
            }
            for (String test : line.strip().split(" ")) {
                runs(test);
            }
        }
        t.sentence("src/test/document.txt");
        t.due("each of its sentences has tests", words.length(), 0);
        t.due("the document has no more words (" + left + ")", left.length(), 0);
    }

    /** The document without headings, its block of Java and the marks of blocks, with single blanks. */
    private static String plain(List<String> document) {
        StringBuilder plain = new StringBuilder();
        boolean java = false;
        for (String line : document) {
            if (line.startsWith("```")) {
                java = line.equals("```java");
            } else if (!java && !line.startsWith("# ") && !line.startsWith("## ")) {
                plain.append(line).append(' ');
            }
        }
        return plain.toString().replaceAll("\\s+", " ").strip();
    }

    private static void runs(String test) throws IOException {
        String name = test.substring(0, test.indexOf('.'));
        String method = test.substring(test.indexOf('.') + 1);
        Path file = Path.of("src/test/java", name + ".java");
        String source = Files.exists(file) ? Files.readString(file) : "";
        boolean has = source.contains("static void " + method + "(");
        t.due(test + " is there", has, true);
        boolean called = method.equals("main") || source.contains("\n        " + method + "(");
        t.due(test + " is run", called, true);
    }
}
