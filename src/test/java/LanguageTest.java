import java.io.IOException;
import java.nio.file.Files;
import java.nio.file.Path;
import java.util.List;
import java.util.regex.Pattern;

/** Those rules of ../shared/LANGUAGE.md that can be seen in the text of the class. Runs in the project's directory. */
public final class LanguageTest {
    private static final Path SOURCE = Path.of("src/main/java/DiffWeaver.java");
    private static final int LONGEST_METHOD = 60;
    /** Rules 2, 4, 5, 6, 10 and 13: what is nowhere in the class, as patterns. */
    private static final String[] NOWHERE = {
        "->", "::", "\\btry\\b", "\\bcatch\\b", "\\bfinally\\b", "\\bsynchronized\\b", "\\bassert\\b", "\\bstatic \\{",
        "\\bequals\\(", "\\bhashCode\\(", "\\btoString\\(", "\\bMath\\.\\w*Exact", "\\bSystem\\.(?!arraycopy\\()",
        "\\bThread\\b", "\\bRandom\\b", "\\bObject\\b", "\\bjava\\.(?!util\\.)", "\\bdouble\\b", "\\bfloat\\b",
        "\"\\s*\\+", "\\+\\s*\"", "\\bwhile \\(true\\)", "for \\(;;\\)", "^package ", "\\bvar\\b", "\\binstanceof\\b"};
    /** Rule 6: what is thrown, with a written text. */
    private static final Pattern THROWN =
            Pattern.compile("throw new (IndexOutOfBounds|IllegalArgument|IllegalState)Exception\\(\"[^\"]+\"\\);");

    private LanguageTest() {
    }

    public static void main(String[] args) throws IOException {
        List<String> rows = Files.readAllLines(SOURCE);
        nowhere(rows);
        imports(rows);
        thrown(rows);
        methods(rows);
        Check.end();
    }

    /** A row without what its comment says. */
    private static String code(String row) {
        String start = row.trim();
        boolean isComment = start.startsWith("//") || start.startsWith("/*") || start.startsWith("*");
        return isComment ? "" : row.replaceAll("\\s*//.*$", "");
    }

    private static void nowhere(List<String> rows) {
        for (int i = 0; i < rows.size(); i++) {
            for (String pattern : NOWHERE) {
                boolean isThere = Pattern.compile(pattern).matcher(code(rows.get(i))).find();
                Check.same("row " + (i + 1) + " has " + pattern, isThere, false);
            }
            boolean isPlain = rows.get(i).chars().allMatch(sign -> sign >= 32 && sign < 127);
            Check.same("row " + (i + 1) + " has plain signs", isPlain, true);
        }
    }

    private static void imports(List<String> rows) {
        for (String row : rows) {
            boolean isGood = !row.startsWith("import ") || row.matches("import java\\.util\\.(ArrayList|List);");
            Check.same(row, isGood, true);
        }
    }

    private static void thrown(List<String> rows) {
        for (int i = 0; i < rows.size(); i++) {
            String row = code(rows.get(i));
            boolean isGood = !row.matches(".*\\bthrow\\b.*") || THROWN.matcher(row).find();
            Check.same("row " + (i + 1) + " throws as it may", isGood, true);
        }
    }

    /** A row that opens a body behind brackets, or has the brackets alone if throws stands in the next one. */
    private static boolean isHead(List<String> rows, int at) {
        String row = rows.get(at);
        boolean isOfMember = row.matches("( {4}| {8})(?! )(?!(if|for|while|switch|do)\\b).*\\(.*");
        boolean isCut = at + 1 < rows.size() && rows.get(at + 1).trim().startsWith("throws ");
        return isOfMember && (row.endsWith("{") || isCut);
    }

    /** A method ends at the row that closes its body in the column of its head. */
    private static void methods(List<String> rows) {
        int methods = 0;
        for (int i = 0; i < rows.size(); i++) {
            if (!isHead(rows, i)) {
                continue;
            }
            String closing = rows.get(i).replaceAll("\\S.*", "}");
            int end = i;
            while (end < rows.size() && !rows.get(end).equals(closing)) {
                end++;
            }
            methods++;
            Check.same("method of row " + (i + 1) + " is short", end - i < LONGEST_METHOD, true);
        }
        Check.same("methods were found", methods > 100, true);
    }
}
