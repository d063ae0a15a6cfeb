import java.io.IOException;
import java.lang.reflect.Method;
import java.lang.reflect.Modifier;
import java.net.URL;
import java.net.URLClassLoader;
import java.nio.file.Files;
import java.nio.file.Path;
import java.util.ArrayList;
import java.util.List;
import java.util.TreeSet;
import java.util.regex.Matcher;
import java.util.regex.Pattern;
import java.util.stream.Stream;
import javax.tools.ToolProvider;

/** What README.md says of the class and of its tests is what they do. */
public final class ReadmeTest {
    private static final Due due = new Due("ReadmeTest");
    private static final Path ROOT = Path.of(System.getProperty("awake.root", "."));
    private static final Pattern EXAMPLE = Pattern.compile("(?s)```java\n(.*?)```");
    private static final Pattern ROW = Pattern.compile("(int \\w+ = )?(board\\.\\w+\\(.*\\)); +// (-?\\d+)(: .*)?");

    public static void main(String[] args) throws IOException, ReflectiveOperationException {
        String page = Files.readString(ROOT.resolve("README.md"));
        List<String> examples = all(EXAMPLE, page);
        due.is("examples", examples.size(), 3);
        for (int i = 0; i < examples.size(); i++) {
            runExample("Example" + i, examples.get(i).split("\n"));
        }
        calls(page);
        findings(page);
        tests(page);
        due.end();
    }

    private static List<String> all(Pattern pattern, String text) {
        List<String> found = new ArrayList<>();
        Matcher m = pattern.matcher(text);
        while (m.find()) {
            found.add(m.group(1));
        }
        return found;
    }

    /** Makes a class of an example, which tells its answers in a row, and holds them against the page's. */
    private static void runExample(String name, String[] lines) throws IOException, ReflectiveOperationException {
        StringBuilder code = new StringBuilder("public final class " + name + " {\npublic static int[] answers() {\n");
        StringBuilder answers = new StringBuilder();
        List<Integer> want = new ArrayList<>();
        due.is(name + " begins with a new board", lines[0].equals("AwakeBoard board = new AwakeBoard();") ? 1 : 0, 1);
        code.append(lines[0]).append('\n');
        for (int i = 1; i < lines.length; i++) {
            Matcher row = ROW.matcher(lines[i]);
            if (!row.matches()) {
                due.is(name + " has a call and its answer in " + lines[i], 0, 1);
                return;
            }
            String named = row.group(1) == null ? "" : row.group(1);
            code.append("int answer" + i + " = " + row.group(2) + ";\n");
            code.append(named.isEmpty() ? "" : named + "answer" + i + ";\n");
            answers.append(answers.length() == 0 ? "" : ", ").append("answer" + i);
            want.add(Integer.parseInt(row.group(3)));
        }
        code.append("return new int[] {" + answers + "};\n}\n}\n");
        int[] got = answersOf(name, code.toString());
        due.is(name + " is Java", got.length, want.size());
        for (int i = 0; i < got.length; i++) {
            due.is(name + ", " + lines[i + 1], got[i], want.get(i));
        }
    }

    private static int[] answersOf(String name, String code) throws IOException, ReflectiveOperationException {
        Path folder = Files.createTempDirectory("readme");
        Path source = folder.resolve(name + ".java");
        Files.writeString(source, code);
        int failed = ToolProvider.getSystemJavaCompiler().run(null, null, null,
            "-cp", System.getProperty("java.class.path"), "-d", folder.toString(), source.toString());
        int[] answers = {};
        if (failed == 0) {
            try (URLClassLoader loader = new URLClassLoader(new URL[] {folder.toUri().toURL()})) {
                answers = (int[]) loader.loadClass(name).getMethod("answers").invoke(null);
            }
        }
        try (Stream<Path> files = Files.list(folder)) {
            for (Path file : files.toList()) {
                Files.delete(file);
            }
        }
        Files.delete(folder);
        return answers;
    }

    /** Each call of the face stands in the table of calls, with as many arguments, and no other does. */
    private static void calls(String page) {
        TreeSet<String> told = new TreeSet<>();
        for (String row : all(Pattern.compile("(?m)^\\| \\d+ to \\d+, [a-z, ]+ \\| (.*) \\|$"), page)) {
            for (String call : row.split("` `|`")) {
                if (!call.isBlank()) {
                    int arguments = call.endsWith("()") ? 0 : call.split(",").length;
                    told.add(call.substring(0, call.indexOf('(')) + " " + arguments);
                }
            }
        }
        TreeSet<String> face = new TreeSet<>();
        for (Method m : AwakeBoard.class.getDeclaredMethods()) {
            if (Modifier.isPublic(m.getModifiers())) {
                face.add(m.getName() + " " + m.getParameterCount());
            }
        }
        due.is("the calls " + told, told.equals(face) ? 1 : 0, 1);
    }

    private static void findings(String page) {
        String[] names = {"BEYOND", "FULL", "KIND", "NONE", "STATE", "MISSING", "SIZE"};
        int[] numbers = {Due.BEYOND, Due.FULL, Due.KIND, Due.NONE, Due.STATE, Due.MISSING, Due.SIZE};
        for (int i = 0; i < names.length; i++) {
            String row = "| " + names[i] + " | " + numbers[i] + " | " + i + " |";
            due.is("the finding " + row, page.contains(row) ? 1 : 0, 1);
        }
    }

    private static void tests(String page) throws IOException {
        TreeSet<String> told = new TreeSet<>(all(Pattern.compile("(?m)^\\| (\\w+Test) \\|"), page));
        TreeSet<String> there = new TreeSet<>();
        try (Stream<Path> files = Files.list(ROOT.resolve("src/test/java"))) {
            files.map(file -> file.getFileName().toString()).filter(name -> name.endsWith("Test.java"))
                .forEach(name -> there.add(name.substring(0, name.length() - ".java".length())));
        }
        due.is("the tests " + told, told.equals(there) ? 1 : 0, 1);
        due.is("how to run them", page.contains("\nbash .ci/run\n") && Files.isExecutable(ROOT.resolve(".ci/run")) ? 1 : 0, 1);
    }
}
