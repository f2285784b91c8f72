import java.io.IOException;
import java.nio.file.DirectoryStream;
import java.nio.file.Files;
import java.nio.file.Path;
import java.util.Arrays;
import java.util.regex.Matcher;
import java.util.regex.Pattern;

/** No sentence of the document, up to "Not promised", is without a test: each is named by one of the Edges tests. */
public final class SentencesTest {
    private static final Pattern NAMED = Pattern.compile("Sentence\\.is\\(((?:[\\s+]*\"[^\"]*\")+)\\)");
    private static final Pattern WORDS = Pattern.compile("\"([^\"]*)\"");
    /** What of the document is no sentence: headings, fences, the face (FaceTest), the list of the calls by kinds. */
    private static final Pattern FRAME = Pattern.compile("# BitTuner ## What it is|## The public face ```java.*?```"
            + "|## Terms|## Promise \\d+: [A-Za-z ]+|```(?:text)?"
            + "|======== \\d|Ahead of the calls (?:`\\w+`,? )+the interface says: ---- \\w+\\.");

    public static void main(String[] args) throws IOException {
        String document = Sentence.document();
        boolean[] isNamed = new boolean[document.length()];
        try (DirectoryStream<Path> files = Files.newDirectoryStream(Path.of("src/test/java"), "Edges*Test.java")) {
            for (Path file : files) {
                markAll(document, Files.readString(file), isNamed);
            }
        }
        int to = document.indexOf("## Not promised");
        Check.holds("that the document has terms and promises", document.indexOf("## Terms") >= 0 && to >= 0);
        StringBuilder left = new StringBuilder();
        for (int i = 0; i < to; i++) {
            left.append(isNamed[i] ? '\n' : document.charAt(i));
        }
        for (String words : FRAME.matcher(left).replaceAll("\n").split("\n+")) {
            Check.holds("that an Edges test names \"" + words + "\"", words.isBlank());
        }
        Check.finish();
    }

    private static void markAll(String document, String test, boolean[] isNamed) {
        Matcher named = NAMED.matcher(test);
        while (named.find()) {
            StringBuilder sentence = new StringBuilder();
            Matcher words = WORDS.matcher(named.group(1));
            while (words.find()) {
                sentence.append(words.group(1));
            }
            int at = document.indexOf(sentence.toString());
            while (at >= 0) {
                Arrays.fill(isNamed, at, at + sentence.length(), true);
                at = document.indexOf(sentence.toString(), at + 1);
            }
        }
    }
}
