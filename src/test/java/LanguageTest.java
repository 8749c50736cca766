import java.io.IOException;
import java.nio.file.Files;
import java.nio.file.Path;
import java.util.List;
import java.util.regex.Matcher;
import java.util.regex.Pattern;

/** What of LANGUAGE.md can be seen in the text of the class; run where src/main/java is. */
public final class LanguageTest {
    private static final String[] NEVER = {
        "->", "::", "\\bimport\\b", "\\bpackage\\b", "\\bfinally\\b", "\\bsynchronized\\b", "\\bassert\\b",
        "\\bcatch\\b", "\\binstanceof\\b", "\\bprotected\\b", "\\bDouble\\b", "\\bFloat\\b", "Exact\\b",
        "\\bObject\\b", "\\bhashCode\\b", "\\btoString\\b", "\\bequals\\b", "\\bRandom\\b", "\\bThread\\b",
        "nanoTime", "currentTimeMillis", "System\\.(?!arraycopy)", "Integer\\.(?!bitCount|numberOfTrailingZeros)",
        "Math\\.(?!abs)", "while \\(true\\)", "for \\(;;\\)",
    };

    /** The text without comments and written texts, which rules about code do not bind. */
    private static String codeOf(String text) {
        return text.replaceAll("(?s)/\\*.*?\\*/", "").replaceAll("//[^\n]*", "").replaceAll("\"[^\"]*\"", "\"\"");
    }

    private static void methodsAreShort(List<String> lines) {
        int start = 0;
        for (int i = 0; i < lines.size(); i++) {
            String line = lines.get(i);
            boolean outer = line.matches("    (\\}|[a-z].*\\{)");
            boolean inner = line.matches("        (\\}|[a-z].*\\{)");
            if ((outer || inner) && line.trim().equals("}")) {
                Check.isTrue("a method of " + (i - start) + " lines ends at " + (i + 1), i - start <= 60);
            }
            if (outer || inner) {
                start = i;
            }
        }
    }

    /** An object is made in a constructor, as a constant's row, or to be thrown: by no call else. */
    private static void makesNothing(String code) {
        Matcher m = Pattern.compile("([^\n]*)\\bnew (\\w+)[^\n]*").matcher(code);
        while (m.find()) {
            boolean thrown = m.group(1).trim().equals("throw");
            boolean row = m.group().matches("        (private )?final \\w+(\\[\\])? \\w+ = new .*");
            boolean part = m.group().matches("        (now|history|text|ways|islands) = new \\w+\\(\\);");
            boolean savedState = m.group().trim().equals("saved[i] = new State();");
            Check.isTrue("an object is made in " + m.group(), thrown || row || part || savedState);
        }
    }

    public static void main(String[] args) throws IOException {
        Path file = Path.of("src/main/java/BarredRungs.java");
        String text = Files.readString(file);
        String code = codeOf(text);
        for (String sign : NEVER) {
            Matcher m = Pattern.compile(sign).matcher(code);
            Check.isTrue(sign + " stands in the class", !m.find());
        }
        Check.isTrue("a sign is not 1 to 127", text.chars().allMatch(c -> c >= 1 && c <= 127));
        methodsAreShort(Files.readAllLines(file));
        makesNothing(code);
        Check.end("LanguageTest");
    }
}
