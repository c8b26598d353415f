import java.io.IOException;
import java.nio.file.Files;
import java.nio.file.Path;
import java.util.regex.Matcher;
import java.util.regex.Pattern;

/** The sentences that the Bounds tests name stand in the document word by word, and no promise is without one. */
public final class SentencesTest {

    private static final Path DOCUMENT = Path.of("../shared/DOC.md");
    private static final String[] TESTS = {"BoundsOfTextsTest", "BoundsOfFaultsTest", "BoundsOfRunsTest", "BoundsOfMessagesTest", "BoundsOfTablesTest"};
    private static final Pattern NAMED = Pattern.compile("Kit\\.of\\(\"([^\"]*)\", \"([^\"]*)\"\\)");
    private static final int PROMISES = 25;

    public static void main(String[] args) throws IOException {
        // Where the document is not at hand, the promises' numbers can be looked at all the same.
        boolean atHand = Files.isReadable(DOCUMENT);
        String document = atHand ? oneLine(Files.readString(DOCUMENT)) : "";
        boolean[] named = new boolean[PROMISES + 1];
        for (String test : TESTS) {
            Matcher m = NAMED.matcher(Files.readString(Path.of("src/test/java/" + test + ".java")));
            while (m.find()) {
                Kit.due("the document says: " + m.group(2), !atHand || document.contains(m.group(2)), true);
                int promise = promiseOf(m.group(1));
                named[promise] = true;
                Kit.due("promise of: " + m.group(1), promise > 0 || m.group(1).equals("All promises"), true);
            }
        }
        for (int promise = 1; promise <= PROMISES; promise++) {
            Kit.due("promise " + promise + " has a test of its bounds", named[promise], true);
        }
        Kit.finish();
    }

    private static String oneLine(String text) {
        return text.replaceAll("\\s+", " ");
    }

    private static int promiseOf(String title) {
        Matcher m = Pattern.compile("Promise (\\d+), .*").matcher(title);
        int promise = m.matches() ? Integer.parseInt(m.group(1)) : 0;
        return promise <= PROMISES ? promise : 0;
    }
}
