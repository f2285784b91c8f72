import java.io.IOException;
import java.nio.file.Files;
import java.nio.file.Path;
import java.util.ArrayList;
import java.util.List;
import java.util.regex.Matcher;
import java.util.regex.Pattern;

/** The rules of LANGUAGE.md that the text of the class shows; run from the project's folder. */
public final class RulesTest {
    private static final String[] FORBIDDEN = {
        "\\bcatch\\b", "\\btry\\b", "\\bfinally\\b", "\\bthrow\\b", "\\bsynchronized\\b", "\\bassert\\b", "->", "::",
        "\\bimport\\b", "\\bpackage\\b", "\\bprotected\\b", "Exact\\s*\\(", "\\bhashCode\\b", "\\btoString\\b",
        "\\bequals\\b", "System\\.(?!arraycopy)", "Math\\.(?!max|min|abs)", "static\\s*\\{", "\\bnative\\b",
        "while\\s*\\(\\s*true", "for\\s*\\(\\s*;\\s*;", "\\[\\]\\s*\\[\\]\\s*\\["
    };

    public static void main(String[] args) throws IOException {
        String text = Files.readString(Path.of("src/main/java/BitTuner.java"));
        String code = withoutComments(text);
        for (String forbidden : FORBIDDEN) {
            Matcher found = Pattern.compile(forbidden).matcher(code);
            Check.holds("no " + forbidden, !found.find());
        }
        Check.holds("plain signs", text.chars().allMatch(c -> c == '\n' || c >= 32 && c < 127));
        Check.holds("some twelve classes", count(code, "\\b(class|enum|record|interface)\\s+\\w+") <= 12);
        shortMethods(code);
        madeOnlyByConstructors(code);
        Check.finish();
    }

    private static String withoutComments(String text) {
        return text.replaceAll("(?s)/\\*.*?\\*/", "").replaceAll("//[^\n]*", "");
    }

    private static int count(String code, String pattern) {
        int found = 0;
        Matcher matcher = Pattern.compile(pattern).matcher(code);
        while (matcher.find()) {
            found++;
        }
        return found;
    }

    /** Heads of methods and constructors, with the lines up to the brace that ends them. */
    private static void shortMethods(String code) {
        List<String> lines = new ArrayList<>(List.of(code.split("\n")));
        Pattern head = Pattern.compile("^( +)[\\w\\[\\] ]*\\w+\\(([^()]*)\\) \\{$");
        for (int i = 0; i < lines.size(); i++) {
            Matcher found = head.matcher(lines.get(i));
            boolean isHead = found.matches() && !lines.get(i).trim().matches("(if|for|while|switch|\\}).*");
            if (isHead) {
                int end = lines.subList(i, lines.size()).indexOf(found.group(1) + "}");
                Check.holds("at most 60 lines: " + lines.get(i).trim(), end > 0 && end <= 60);
                Check.holds("at most 7 parameters: " + lines.get(i).trim(), found.group(2).split(",").length <= 7);
            }
        }
    }

    /** All rows are made once, so no run of calls can fill the room. */
    private static void madeOnlyByConstructors(String code) {
        int inAll = count(code, "\\bnew\\b");
        int inConstructors = 0;
        Matcher constructor = Pattern.compile("(?s)\\n( +)(?:public )?(BitTuner|Program|Runs|Widths)\\([^)]*\\) \\{"
                + ".*?\\n\\1\\}").matcher(code);
        while (constructor.find()) {
            inConstructors += count(constructor.group(), "\\bnew\\b");
        }
        Check.due("objects made outside constructors", inAll - inConstructors, 0);
    }
}
