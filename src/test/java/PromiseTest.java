import java.io.IOException;
import java.nio.file.DirectoryStream;
import java.nio.file.Files;
import java.nio.file.Path;
import java.util.regex.Matcher;
import java.util.regex.Pattern;

/** Each of the document's 40 promises has sentences that are tested. */
public final class PromiseTest {
    private static final int PROMISES = 40;

    public static void main(String[] args) throws IOException {
        int[] sentences = new int[PROMISES + 1];
        Pattern says = Pattern.compile("Check\\.says\\((\\d+),");
        Path tests = Path.of(System.getProperty("wakepark.tests", "src/test/java"));
        try (DirectoryStream<Path> files = Files.newDirectoryStream(tests, "*Test.java")) {
            for (Path file : files) {
                Matcher found = says.matcher(Files.readString(file));
                while (found.find()) {
                    int promise = Integer.parseInt(found.group(1));
                    boolean known = promise >= 1 && promise <= PROMISES;
                    Check.is("a promise of the document: " + promise, known);
                    sentences[known ? promise : 0]++;
                }
            }
        }
        for (int promise = 1; promise <= PROMISES; promise++) {
            Check.is("promise " + promise + " is tested", sentences[promise] > 0);
        }
        Check.end();
    }
}
