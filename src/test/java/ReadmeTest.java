import java.io.IOException;
import java.net.URL;
import java.net.URLClassLoader;
import java.nio.file.Files;
import java.nio.file.Path;
import java.util.ArrayList;
import java.util.List;
import java.util.Set;
import java.util.TreeSet;
import java.util.regex.Matcher;
import java.util.regex.Pattern;
import java.util.stream.Stream;
import javax.tools.ToolProvider;

/** What README.md says is so: its calls answer what stands behind them; it names all calls and files, and no others. */
public final class ReadmeTest {
    private static final Pattern ANSWERED = Pattern.compile("(.*?); *// (-?\\d+|true|false)(\\W.*)?");
    private static final Path TESTS = Path.of("src/test/java");
    private static final Checks t = new Checks("ReadmeTest");

    public static void main(String[] args) throws IOException, ReflectiveOperationException {
        String readme = Files.readString(Path.of("README.md"));
        answers(blocksOfJava(readme));
        callsAreAll(readme);
        filesAreAll(readme);
        t.finish();
    }

    private static List<String> blocksOfJava(String readme) {
        List<String> blocks = new ArrayList<>();
        Matcher block = Pattern.compile("```java\n(.*?)```", Pattern.DOTALL).matcher(readme);
        while (block.find()) {
            blocks.add(block.group(1));
        }
        t.sentence("README.md");
        t.due("it has blocks of Java", blocks.isEmpty(), false);
        return blocks;
    }

    /** All blocks are one run of calls, but for those that tell a method. */
    private static void answers(List<String> blocks) throws IOException, ReflectiveOperationException {
        StringBuilder methods = new StringBuilder();
        StringBuilder calls = new StringBuilder();
        for (String block : blocks) {
            if (block.startsWith("static ")) {
                methods.append(block);
                continue;
            }
            for (String line : block.split("\n")) {
                calls.append(asked(line)).append('\n');
            }
        }
        Path made = Files.createTempDirectory("readme");
        Path source = made.resolve("Readme.java");
        Files.writeString(source, "public final class Readme {\n" + methods
            + "static java.util.List<String[]> all = new java.util.ArrayList<>();\n"
            + "static void ask(String call, Object got, String want) {\n"
            + "all.add(new String[] {call, String.valueOf(got), want});\n}\n"
            + "public static java.util.List<String[]> go() {\n" + calls + "return all;\n}\n}\n");
        int failed = ToolProvider.getSystemJavaCompiler().run(null, null, null, "-cp",
            System.getProperty("java.class.path"), "-d", made.toString(), source.toString());
        t.due("its Java is compiled", failed, 0);
        if (failed == 0) {
            compare(made);
        }
        try (Stream<Path> files = Files.list(made)) {
            for (Path file : files.toList()) {
                Files.delete(file);
            }
        }
        Files.delete(made);
    }

    private static String asked(String line) {
        Matcher m = ANSWERED.matcher(line);
        if (!m.matches()) {
            return line;
        }
        String call = m.group(1).replace("\\", "\\\\").replace("\"", "\\\"");
        return "ask(\"" + call + "\", " + m.group(1) + ", \"" + m.group(2) + "\");";
    }

    private static void compare(Path made) throws IOException, ReflectiveOperationException {
        try (URLClassLoader loader = new URLClassLoader(new URL[] {made.toUri().toURL()})) {
            List<?> all = (List<?>) loader.loadClass("Readme").getMethod("go").invoke(null);
            t.due("it has calls with their answers", all.size() > 20, true);
            for (Object one : all) {
                String[] row = (String[]) one;
                t.due(row[0] + " answered " + row[1] + ", README.md says " + row[2], row[1].equals(row[2]), true);
            }
        }
    }

    private static void callsAreAll(String readme) {
        t.sentence("README.md: All calls");
        Set<String> face = new TreeSet<>();
        for (var method : SevenToAShadow.class.getDeclaredMethods()) {
            if (java.lang.reflect.Modifier.isPublic(method.getModifiers())) {
                face.add(method.getName() + " of " + method.getParameterCount());
            }
        }
        Set<String> named = new TreeSet<>();
        Matcher row = Pattern.compile("\n\\| `(\\w+)\\((.*?)\\)` \\|").matcher(readme);
        while (row.find()) {
            named.add(row.group(1) + " of " + (row.group(2).isEmpty() ? 0 : row.group(2).split(",").length));
        }
        t.due("those named " + named + " are those of the class " + face, named.equals(face), true);
    }

    private static void filesAreAll(String readme) throws IOException {
        t.sentence("README.md: files");
        Matcher name = Pattern.compile("`([\\w./]+\\.(?:java|md|txt)|\\.\\w+/\\w+|\\.\\./[\\w/]+)`").matcher(readme);
        while (name.find()) {
            String file = name.group(1).equals("LANGUAGE.md") ? "../shared/LANGUAGE.md" : name.group(1);
            t.due(file + " is there", Files.exists(Path.of(file)) || Files.exists(TESTS.resolve(file)), true);
        }
        try (Stream<Path> files = Files.list(TESTS)) {
            for (Path file : files.toList()) {
                t.due(file + " is named", readme.contains("`" + file.getFileName() + "`"), true);
            }
        }
        t.due(".ci/run can be run", Files.isExecutable(Path.of(".ci/run")), true);
    }
}
