import java.io.IOException;
import java.nio.file.Files;
import java.nio.file.Path;
import java.util.List;
import java.util.regex.Matcher;
import java.util.regex.Pattern;

/** What can be seen of ../shared/LANGUAGE.md in the text of the class alone. */
public final class LanguageTest {
    private static final Path SOURCE = Path.of("src/main/java/NotationPress.java");

    private static final String[] NOT_THERE = {"->", "::", "\\bimport\\b", "\\bpackage\\b", "\\bcatch\\b", "\\btry\\b",
        "\\bfinally\\b", "\\bsynchronized\\b", "\\bassert\\b", "\\binstanceof\\b", "\\bwhile\\b", "\\bvar\\b",
        "\\bnew (?!IllegalStateException|IllegalArgumentException|IndexOutOfBoundsException|int\\[|char\\[|Items|Description"
            + "|Trace|Printer|Reader|Sampler|Text|Table|Column|Upgrade)",
        "\\bSystem\\.(?!arraycopy)", "\\bMath\\.(?!min|max|floorDiv|floorMod)", "Exact\\(", "\\bfloat\\b", "\\bdouble\\b",
        "[^\\x0A\\x20-\\x7E]", "static \\{", "\\bprotected\\b"};

    public static void main(String[] args) throws IOException {
        String text = Files.readString(SOURCE).replaceAll("(?s)/\\*.*?\\*/", "").replaceAll("//[^\n]*", "");
        for (String pattern : NOT_THERE) {
            Matcher found = Pattern.compile(pattern).matcher(text);
            Due.text(pattern, found.find() ? found.group() : "not there", "not there");
        }
        methodsAreShort(Files.readAllLines(SOURCE));
        Due.end();
    }

    /** A method begins with a line that ends in a brace and stands in four or eight columns, and ends likewise. */
    private static void methodsAreShort(List<String> lines) {
        int begin = -1;
        for (int i = 0; i < lines.size(); i++) {
            String line = lines.get(i);
            if (line.matches("(    |        )[^ }/].*\\{") && !line.contains(" class ")) begin = i;
            if (line.matches("(    |        )\\}") && begin >= 0) {
                Due.answer(lines.get(begin) + " has at most 60 lines", i - begin < 60 ? 1 : 0, 1);
                begin = -1;
            }
            Due.answer("line " + (i + 1) + " has at most 120 columns", line.length() <= 120 ? 1 : 0, 1);
        }
    }
}
