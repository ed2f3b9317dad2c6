import java.io.IOException;
import java.nio.file.Files;
import java.nio.file.Path;
import java.util.List;
import java.util.regex.Matcher;
import java.util.regex.Pattern;

/** The source keeps to those rules of ../shared/LANGUAGE.md that its text shows; run from the project's folder. */
public final class LanguageTest {
    private static final String[] RULED_OUT = {"\\bpackage\\b", "\\bimport\\b", "->", "::", "\\bfinally\\b", "\\btry\\b",
        "\\bcatch\\b", "\\bsynchronized\\b", "\\bassert\\b", "\\bwhile\\b", "\\bprotected\\b", "\\bvar\\b",
        "\\binstanceof\\b", "\\bnull\\b", "\\bSystem\\.(?!arraycopy)", "\\bThread\\b", "\\bRandom\\b", "\\bstatic \\{",
        "Exact\\b", "\\bMath\\.(?!max|min)", "\\bequals\\b", "\\bhashCode\\b", "\\btoString\\b", "%", "\\bObject\\b"};
    private static final String THROWS = "throw new (IllegalState|IllegalArgument|IndexOutOfBounds)Exception\\(\"[^\"]+\"\\);";
    private static final int MOST_LINES = 60;
    private static final int MOST_FIELDS = 20;
    private static final int MOST_PARAMETERS = 7;

    public static void main(String[] args) throws IOException {
        List<String> lines = Files.readAllLines(Path.of("src", "main", "java", "RepairShop.java"));
        for (int i = 0; i < lines.size(); i++) {
            String line = lines.get(i);
            Checks.holds("line " + (i + 1) + " has signs 1 to 127 alone",
                    line.chars().allMatch(sign -> sign > 0 && sign < 128));
            Checks.holds("line " + (i + 1) + " is not long", line.length() <= 120);
            String code = line.replaceAll("//.*|/\\*\\*.*", "").replaceAll("\"[^\"]*\"", "\"\"");
            for (String out : RULED_OUT) {
                Checks.holds("line " + (i + 1) + " without " + out, !Pattern.compile(out).matcher(code).find());
            }
            if (code.contains("throw new")) {
                Checks.holds("line " + (i + 1) + " throws as it may", line.trim().matches(THROWS));
            }
            if (code.matches(".*\\bnew \\w+\\[.*")) {
                Checks.holds("line " + (i + 1) + " makes a row with its object only",
                        line.trim().matches("private final \\w+\\[\\] \\w+ = new \\w+\\[[A-Z_]+\\];"));
            }
        }
        methodsAndFields(lines);
        Checks.close("LanguageTest");
    }

    /** Methods and fields are told by their indent: four spaces for each class round them. */
    private static void methodsAndFields(List<String> lines) {
        int fields = 0;
        int from = 0;
        for (int i = 0; i < lines.size(); i++) {
            String line = lines.get(i);
            if (line.contains(" class ")) {
                fields = 0;
            }
            if (line.matches("( {4}){1,2}private (?!static)[^(]*;")) {
                fields++;
                Checks.holds("line " + (i + 1) + ": some twenty fields", fields <= MOST_FIELDS);
            }
            Matcher head = Pattern.compile("( {4}){1,2}(public|private) [^=]*\\((.*)\\).*").matcher(line);
            if (head.matches()) {
                from = i;
                Checks.holds("line " + (i + 1) + ": seven parameters",
                        head.group(3).split(",").length <= MOST_PARAMETERS);
            }
            if (line.matches("( {4}){1,2}}") && i > from) {
                int length = i - from + 1;
                boolean isClass = lines.get(from).contains(" class ");
                Checks.holds("line " + (from + 1) + ": a short method", isClass || from == 0 || length <= MOST_LINES);
                from = i;
            }
        }
    }
}
