import java.io.IOException;
import java.lang.reflect.Method;
import java.lang.reflect.Modifier;
import java.net.URL;
import java.net.URLClassLoader;
import java.nio.file.Files;
import java.nio.file.Path;
import java.util.Comparator;
import java.util.Set;
import java.util.TreeSet;
import java.util.regex.Matcher;
import java.util.regex.Pattern;
import java.util.stream.Stream;
import javax.tools.ToolProvider;

/** What README.md tells of the class: its example with the answers, and its table of the calls. */
public final class ReadmeTests {
    private static final Pattern EXAMPLE = Pattern.compile("(?s)```java\n(.*?)```");
    private static final Pattern CALL =
        Pattern.compile("\\s*(?:int (\\w+) = )?(desk\\.(\\w+)\\(.*\\));\\s*// (-?\\d+)(?::.*)?");
    private static final Pattern ROW = Pattern.compile("(?m)^\\| `(\\w+)\\(([^)]*)\\)`");

    private static final Set<String> asked = new TreeSet<>();
    private static int wrong = 0;

    private static void fail(String what) {
        wrong++;
        System.out.println("README.md: " + what);
    }

    /** The example's calls come here once it runs. */
    public static void due(String call, int got, int want) {
        if (got != want) {
            fail(call + " answered " + got + ", told is " + want);
        }
    }

    /** The same line, but telling the call's answer and the one in its comment to due. */
    private static String withCheck(String line) {
        if (!line.contains("desk.")) {
            return line;
        }
        Matcher call = CALL.matcher(line);
        if (!call.matches()) {
            fail("no answer is told in the line " + line.strip());
            return line;
        }
        asked.add(call.group(3));
        String name = call.group(1);
        String answer = name == null ? call.group(2) : name;
        String check = "ReadmeTests.due(\"" + call.group(2) + "\", " + answer + ", " + call.group(4) + ");";
        return name == null ? check : line + "\n" + check;
    }

    private static void runExample(String readme, Path folder) throws Exception {
        Matcher example = EXAMPLE.matcher(readme);
        if (!example.find()) {
            fail("there is no example");
            return;
        }
        StringBuilder checked = new StringBuilder();
        for (String line : example.group(1).split("\n")) {
            checked.append(withCheck(line)).append('\n');
        }
        Path source = Files.writeString(folder.resolve("Example.java"), checked);
        String[] options = {
            "-cp", System.getProperty("java.class.path"), "-d", folder.toString(), source.toString()};
        if (ToolProvider.getSystemJavaCompiler().run(null, null, null, options) != 0) {
            fail("the example does not compile");
            return;
        }
        try (URLClassLoader loader = new URLClassLoader(new URL[] {folder.toUri().toURL()})) {
            loader.loadClass("Example").getMethod("main", String[].class).invoke(null, (Object) new String[0]);
        }
    }

    private static void compareCalls(String readme) {
        Set<String> names = new TreeSet<>();
        Set<String> face = new TreeSet<>();
        for (Method method : FacetDesk.class.getDeclaredMethods()) {
            if (Modifier.isPublic(method.getModifiers())) {
                names.add(method.getName());
                face.add(method.getName() + " " + method.getParameterCount());
            }
        }
        Set<String> told = new TreeSet<>();
        Matcher row = ROW.matcher(readme);
        while (row.find()) {
            int parameters = row.group(2).isEmpty() ? 0 : row.group(2).split(",").length;
            told.add(row.group(1) + " " + parameters);
        }
        if (!told.equals(face)) {
            fail("the table tells of the calls " + told + ", the class has " + face);
        }
        if (!asked.equals(names)) {
            fail("the example makes the calls " + asked + ", the class has " + names);
        }
    }

    private static void delete(Path folder) throws IOException {
        try (Stream<Path> files = Files.walk(folder)) {
            for (Path file : files.sorted(Comparator.reverseOrder()).toList()) {
                Files.delete(file);
            }
        }
    }

    public static void main(String[] args) throws Exception {
        String readme = Files.readString(Path.of("README.md"));
        Path folder = Files.createTempDirectory("readme");
        try {
            runExample(readme, folder);
        } finally {
            delete(folder);
        }
        compareCalls(readme);
        System.out.println(wrong == 0 ? "README.md tells what the class does" : wrong + " faults in README.md");
        if (wrong != 0) {
            System.exit(1);
        }
    }
}
