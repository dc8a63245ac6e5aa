import java.io.File;
import java.io.IOException;
import java.io.StringWriter;
import java.lang.reflect.Method;
import java.lang.reflect.Modifier;
import java.net.URL;
import java.net.URLClassLoader;
import java.nio.file.Files;
import java.nio.file.Path;
import java.util.ArrayList;
import java.util.List;
import java.util.Set;
import java.util.TreeSet;
import java.util.regex.Matcher;
import java.util.regex.Pattern;
import java.util.stream.Stream;
import javax.tools.JavaCompiler;
import javax.tools.ToolProvider;

/** README.md: its Java is compiled and run as it stands, and answers as it says; its lists leave nothing out. */
public final class ReadmeTest {
    private static final String NAME = "ReadmeExample";
    private static final Pattern SHOWN =
        Pattern.compile("(x\\.\\w+\\(.*\\)); +// (-?\\d+|true|false|NoSuchElementException)\\b.*");
    private static final Pattern ROW = Pattern.compile("\\| `(\\w+)\\(([^)]*)\\)` \\| (.+) \\| (.+) \\|");
    private static final Pattern REFUSED =
        Pattern.compile("`((?:new WakePark\\(\\)\\.)?\\w+\\([^)]*\\))` is `(-?\\d+|true|false|NoSuchElementException)`");
    /** The calls that answer for all that can be asked. */
    private static final Set<String> UNREFUSED = Set.of("feed", "park", "day", "home", "lost", "front", "full", "step", "idle",
        "straight");

    public static void main(String[] args) throws IOException, ReflectiveOperationException {
        String page = Pages.readme();
        List<String[]> rows = rows(page);
        allCallsAreListed(rows);
        allTestsAreListed(page);
        allIsAsShown(run(program(page, rows)));
        Check.end();
    }

    /** Of each row of a call: its name, its parameters, what is said of what is not there. */
    private static List<String[]> rows(String page) {
        List<String[]> rows = new ArrayList<>();
        for (String line : page.split("\n")) {
            Matcher m = ROW.matcher(line);
            if (m.matches()) {
                rows.add(new String[] {m.group(1), m.group(2), m.group(4)});
            }
        }
        return rows;
    }

    private static void allCallsAreListed(List<String[]> rows) {
        Set<String> due = new TreeSet<>();
        for (Method m : WakePark.class.getDeclaredMethods()) {
            if (Modifier.isPublic(m.getModifiers())) {
                due.add(m.getName() + " of " + m.getParameterCount());
            }
        }
        Set<String> got = new TreeSet<>();
        for (String[] row : rows) {
            int parameters = row[1].isEmpty() ? 0 : row[1].split(", ").length;
            Check.is("once: " + row[0], got.add(row[0] + " of " + parameters));
            Check.is("it is said what " + row[0] + " refuses", UNREFUSED.contains(row[0]) != REFUSED.matcher(row[2]).find());
        }
        Check.is("calls are " + got + ", due is " + due, got.equals(due));
    }

    private static void allTestsAreListed(String page) throws IOException {
        Set<String> got = new TreeSet<>();
        Matcher m = Pattern.compile("(?m)^\\| (\\w+Test) \\|").matcher(page);
        while (m.find()) {
            got.add(m.group(1));
        }
        Set<String> due = Pages.tests().keySet();
        Check.is("tests are " + got + ", due is " + due, got.equals(due));
    }

    /** README's Java: methods as they stand, the example's lines in their order, then what the lists say is refused. */
    private static String program(String page, List<String[]> rows) {
        StringBuilder methods = new StringBuilder();
        StringBuilder lines = new StringBuilder();
        for (String block : Pages.blocks(page, "java")) {
            if (block.startsWith("static ")) {
                methods.append(block);
            } else {
                for (String line : block.split("\n")) {
                    lines.append(exampleLine(line)).append('\n');
                }
            }
        }
        for (String[] row : rows) {
            Matcher m = REFUSED.matcher(row[2]);
            while (m.find()) {
                String call = m.group(1).startsWith("new ") ? m.group(1) : "x." + m.group(1);
                Check.is(row[0] + " in its own row", call.contains("." + row[0] + "("));
                lines.append(asked(call, m.group(2)));
            }
        }
        return "public final class " + NAME + " {\n" + methods
            + "public static void run(java.util.List<String[]> answers) {\n" + lines + "}\n}\n";
    }

    private static String exampleLine(String line) {
        Matcher m = SHOWN.matcher(line);
        if (m.matches()) {
            return asked(m.group(1), m.group(2));
        }
        Check.is("a line without an answer: " + line, line.startsWith("tell(x, ") || line.startsWith("WakePark x = "));
        return line;
    }

    private static String asked(String call, String due) {
        return "try { answers.add(new String[] {\"" + call + "\", String.valueOf(" + call + "), \"" + due + "\"}); }\n"
            + "catch (java.util.NoSuchElementException none) { answers.add(new String[] {\"" + call
            + "\", \"NoSuchElementException\", \"" + due + "\"}); }\n";
    }

    private static List<String[]> run(String program) throws IOException, ReflectiveOperationException {
        List<String[]> answers = new ArrayList<>();
        Path folder = Files.createTempDirectory("readme");
        try {
            Path file = Files.writeString(folder.resolve(NAME + ".java"), program);
            if (compiles(file, folder)) {
                URL[] where = {folder.toUri().toURL()};
                try (URLClassLoader loader = new URLClassLoader(where, ReadmeTest.class.getClassLoader())) {
                    loader.loadClass(NAME).getMethod("run", List.class).invoke(null, answers);
                }
            }
        } finally {
            remove(folder);
        }
        return answers;
    }

    private static boolean compiles(Path file, Path folder) throws IOException {
        JavaCompiler compiler = ToolProvider.getSystemJavaCompiler();
        Check.is("there is a compiler", compiler != null);
        if (compiler == null) {
            return false;
        }
        List<String> options = List.of("-d", folder.toString(), "-classpath", System.getProperty("java.class.path"));
        StringWriter told = new StringWriter();
        try (var files = compiler.getStandardFileManager(null, null, null)) {
            boolean good = compiler.getTask(told, files, null, options, null, files.getJavaFileObjects(file)).call();
            Check.is("README's Java compiles: " + told, good);
            return good;
        }
    }

    private static void remove(Path folder) throws IOException {
        try (Stream<Path> inside = Files.list(folder)) {
            inside.map(Path::toFile).forEach(File::delete);
        }
        Files.delete(folder);
    }

    private static void allIsAsShown(List<String[]> answers) {
        Check.is("enough is shown: " + answers.size(), answers.size() >= 70);
        for (String[] answer : answers) {
            Check.is("README.md: " + answer[0] + " answered " + answer[1] + ", due is " + answer[2], answer[1].equals(answer[2]));
        }
    }
}
