import java.io.IOException;
import java.util.Map;
import java.util.regex.Matcher;
import java.util.regex.Pattern;

/** Each of the document's 40 promises has sentences that are tested, and the document says them so. */
public final class PromiseTest {
    private static final int PROMISES = 40;
    private static final String TEXT = "\"((?:[^\"\\\\]|\\\\.)*)\"";
    private static final Pattern QUOTED = Pattern.compile(TEXT);
    private static final Pattern SAYS = Pattern.compile("Check\\.says\\((\\d+),");
    private static final Pattern WORDS = Pattern.compile("Check\\.says\\(\\d+,\\s*(" + TEXT + "(?:\\s*\\+\\s*" + TEXT + ")*)\\)");
    /** A sentence that is chosen by a test's own turn is not told as one text. */
    private static final Pattern CHOSEN = Pattern.compile("Check\\.says\\(\\d+,[^\"]*\\?\\s*" + TEXT + "\\s*:\\s*" + TEXT + "\\)");

    public static void main(String[] args) throws IOException {
        String document = Pages.document().replaceAll("\\s+", " ");
        int[] sentences = new int[PROMISES + 1];
        int said = 0;
        int found = 0;
        for (Map.Entry<String, String> test : Pages.tests().entrySet()) {
            if (test.getKey().equals("PromiseTest")) {
                continue;
            }
            said += count(test.getValue(), sentences);
            found += lookUp(test.getKey(), test.getValue(), document);
        }
        Check.same("sentences that were looked up", found, said);
        for (int promise = 1; promise <= PROMISES; promise++) {
            Check.is("promise " + promise + " is in the document", document.contains("## Promise " + promise + ": "));
            Check.is("promise " + promise + " is tested", sentences[promise] > 0);
        }
        Check.isNot("more promises", document.contains("## Promise " + (PROMISES + 1)));
        Check.end();
    }

    private static int count(String test, int[] sentences) {
        int said = 0;
        Matcher m = SAYS.matcher(test);
        while (m.find()) {
            int promise = Integer.parseInt(m.group(1));
            boolean known = promise >= 1 && promise <= PROMISES;
            Check.is("a promise of the document: " + promise, known);
            sentences[known ? promise : 0]++;
            said++;
        }
        return said;
    }

    private static int lookUp(String name, String test, String document) {
        int found = 0;
        Matcher m = WORDS.matcher(test);
        while (m.find()) {
            StringBuilder words = new StringBuilder();
            Matcher quoted = QUOTED.matcher(m.group(1));
            while (quoted.find()) {
                words.append(quoted.group(1));
            }
            stands(name, words.toString(), document);
            found++;
        }
        m = CHOSEN.matcher(test);
        while (m.find()) {
            stands(name, m.group(1), document);
            stands(name, m.group(2), document);
            found++;
        }
        return found;
    }

    private static void stands(String name, String words, String document) {
        Check.is(name + ": the document says \"" + words + "\"", document.contains(words));
    }
}
