import java.io.ByteArrayOutputStream;
import java.io.PrintStream;
import java.net.URL;
import java.net.URLClassLoader;
import java.nio.file.Files;
import java.nio.file.Path;
import java.util.ArrayList;
import java.util.Comparator;
import java.util.List;
import java.util.Set;
import java.util.TreeSet;
import java.util.regex.Matcher;
import java.util.regex.Pattern;
import java.util.stream.Stream;
import javax.tools.JavaCompiler;
import javax.tools.ToolProvider;

/** What README.md shows of the use of the class is so when it is run, and the files that it names are there. */
public final class ReadmeTest {
    private static final Path README = Path.of("README.md");
    private static final Path TESTS = Path.of("src/test/java");
    private static final Pattern BLOCK = Pattern.compile("(?ms)^```(\\w+)\\n(.*?)^```$");
    private static final Pattern PROGRAM = Pattern.compile("public final class (\\w+)");
    // The last call of a line, and the answer behind it: a number or a constant, and perhaps words.
    private static final Pattern SHOWN = Pattern.compile("(.*?)(\\w+\\.\\w+\\([^;]*\\)); +// (-?\\d+|[A-Z]+)(?:: .*)?");
    private static int wrong = 0;
    private static int shown = 0;

    private ReadmeTest() {
    }

    private static void tell(String fault) {
        wrong++;
        System.out.println("ReadmeTest: " + fault);
    }

    public static void main(String[] args) throws Exception {
        String page = Files.readString(README);
        Path out = Files.createTempDirectory("readme");
        try {
            runBlocks(page, out);
        } finally {
            try (Stream<Path> files = Files.walk(out)) {
                files.sorted(Comparator.reverseOrder()).forEach(file -> file.toFile().delete());
            }
        }
        everyCallIsShown(page);
        filesAreNamed(page);
        System.out.println("ReadmeTest: " + shown + " answers shown, " + wrong + " faults");
        if (wrong != 0) {
            System.exit(1);
        }
    }

    private static void runBlocks(String page, Path out) throws Exception {
        String due = "";
        String said = "";
        int example = 0;
        for (Matcher block = BLOCK.matcher(page); block.find(); ) {
            String kind = block.group(1);
            String words = block.group(2);
            Matcher program = PROGRAM.matcher(words);
            if (kind.equals("java") && program.find()) {
                said = outputOf(out, program.group(1), words);
            } else if (kind.equals("java")) {
                example++;
                tellEach(outputOf(out, "Example" + example, asProgram("Example" + example, words)));
            } else if (kind.equals("text")) {
                due = words;
            }
        }
        if (due.isEmpty() || !said.equals(due)) {
            tell("the program says '" + said + "', and the page '" + due + "'");
        }
        if (example == 0) {
            tell("no example");
        }
    }

    private static void tellEach(String output) {
        for (String line : output.split("\n")) {
            if (!line.isEmpty()) {
                tell(line);
            }
        }
    }

    /** A program that runs the lines of an example and prints each answer that is not the one that is shown. */
    private static String asProgram(String name, String words) {
        StringBuilder code = new StringBuilder("public final class " + name + " {\n"
            + "    private static void due(String call, long got, long want) {\n"
            + "        if (got != want) {\n"
            + "            System.out.println(call + \" answered \" + got + \", shown is \" + want);\n"
            + "        }\n    }\n"
            + "    public static void main(String[] args) {\n");
        for (String line : words.split("\n")) {
            Matcher m = SHOWN.matcher(line);
            if (m.matches()) {
                shown++;
                String want = m.group(3).matches("[A-Z]+") ? "StoneVotes." + m.group(3) : m.group(3) + "L";
                code.append(m.group(1)).append("due(\"").append(m.group(2)).append("\", ").append(m.group(2)).append(", ")
                    .append(want).append(");\n");
            } else {
                if (line.contains("//")) {
                    tell("an answer that cannot be read: " + line);
                }
                code.append(line).append('\n');
            }
        }
        return code.append("    }\n}\n").toString();
    }

    private static String outputOf(Path out, String name, String source) throws Exception {
        Path file = out.resolve(name + ".java");
        Files.writeString(file, source);
        JavaCompiler javac = ToolProvider.getSystemJavaCompiler();
        int code = javac.run(null, null, null, "-cp", System.getProperty("java.class.path"), "-d", out.toString(),
            file.toString());
        if (code != 0) {
            tell(name + " does not compile");
            return "";
        }
        PrintStream screen = System.out;
        ByteArrayOutputStream said = new ByteArrayOutputStream();
        try (URLClassLoader loader = new URLClassLoader(new URL[] {out.toUri().toURL()})) {
            System.setOut(new PrintStream(said, true));
            loader.loadClass(name).getMethod("main", String[].class).invoke(null, (Object) new String[0]);
        } finally {
            System.setOut(screen);
        }
        return said.toString().replace(System.lineSeparator(), "\n");
    }

    private static void everyCallIsShown(String page) {
        for (java.lang.reflect.Method m : StoneVotes.class.getDeclaredMethods()) {
            boolean isFace = java.lang.reflect.Modifier.isPublic(m.getModifiers());
            if (isFace && !page.contains("x." + m.getName() + "(")) {
                tell("no example shows " + m.getName());
            }
        }
    }

    private static void filesAreNamed(String page) throws Exception {
        Set<String> named = new TreeSet<>();
        for (Matcher m = Pattern.compile("`([\\w./]+\\.(?:java|md))`").matcher(page); m.find(); ) {
            named.add(m.group(1));
        }
        List<String> tests = new ArrayList<>();
        try (Stream<Path> files = Files.list(TESTS)) {
            files.forEach(file -> tests.add(file.getFileName().toString()));
        }
        for (String name : tests) {
            if (!named.contains(name)) {
                tell("a file of the tests that is not named: " + name);
            }
        }
        for (String name : named) {
            if (!tests.contains(name) && !Files.exists(Path.of(name))) {
                tell("no such file: " + name);
            }
        }
        if (!page.contains(".ci/run") || !Files.isExecutable(Path.of(".ci/run"))) {
            tell("no .ci/run that can be run");
        }
    }
}
