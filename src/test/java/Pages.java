import java.io.IOException;
import java.nio.file.DirectoryStream;
import java.nio.file.Files;
import java.nio.file.Path;
import java.util.ArrayList;
import java.util.List;
import java.util.Map;
import java.util.TreeMap;
import java.util.regex.Matcher;
import java.util.regex.Pattern;

/** The texts that tests look up: the document, the class, README.md, the tests themselves. */
final class Pages {
    private Pages() {
    }

    static String document() throws IOException {
        return read("wakepark.doc", "../shared/DOC.md");
    }

    static String source() throws IOException {
        return read("wakepark.source", "src/main/java/WakePark.java");
    }

    static String readme() throws IOException {
        return read("wakepark.readme", "README.md");
    }

    /** Each test's name and its text. */
    static Map<String, String> tests() throws IOException {
        Map<String, String> tests = new TreeMap<>();
        Path folder = Path.of(System.getProperty("wakepark.tests", "src/test/java"));
        try (DirectoryStream<Path> files = Files.newDirectoryStream(folder, "*Test.java")) {
            for (Path file : files) {
                tests.put(file.getFileName().toString().replace(".java", ""), Files.readString(file));
            }
        }
        return tests;
    }

    /** What stands between the fences of this kind, one text each. */
    static List<String> blocks(String page, String kind) {
        List<String> blocks = new ArrayList<>();
        Matcher m = Pattern.compile("(?ms)^```" + kind + "\\n(.*?)^```$").matcher(page);
        while (m.find()) {
            blocks.add(m.group(1));
        }
        return blocks;
    }

    private static String read(String property, String otherwise) throws IOException {
        return Files.readString(Path.of(System.getProperty(property, otherwise)));
    }
}
