import java.io.IOException;
import java.nio.file.Files;
import java.nio.file.Path;
import java.util.List;
import java.util.regex.Pattern;

/** Rules of LANGUAGE.md that can be seen in the source; run at the project's root. */
public final class LanguageTest {
    private static final String[] RULED_OUT = {
        "\\bimport\\b", "\\bpackage\\b", "->", "::", "\\btry\\b", "\\bcatch\\b", "\\bfinally\\b", "\\bthrow\\b",
        "\\bsynchronized\\b", "\\bassert\\b", "\\binstanceof\\b", "\\bstatic\\s*\\{", "Exact\\b", "\\bdouble\\b",
        "\\bfloat\\b", "\\bvar\\b", "\\bnull\\b", "System\\.(?!arraycopy)", "Math\\.(?!(min|max|abs)\\b)",
        "Long\\.(?!bitCount\\b)", "\\bjava\\.", "\\bThread\\b", "\\bwhile\\s*\\(\\s*true"};
    // All calls live in one room, so rows are made with the object alone: in fields and constructors.
    private static final String MADE_ONCE =
        " +private final .*= new .*;| {8}[a-z]+ = new [A-Za-z]+\\([A-Z_]*\\);"
            + "| {12}moments = new Moment\\[.*\\];| {16}moments\\[k\\] = new Moment\\(\\);";
    private static final int LONGEST_METHOD = 60;

    public static void main(String[] args) throws IOException {
        List<String> lines = Files.readAllLines(Path.of("src/main/java/OnlyWhatIsLost.java"));
        int methodStart = 0;
        for (int n = 0; n < lines.size(); n++) {
            String line = lines.get(n);
            String code = line.replaceAll("\"[^\"]*\"", "\"\"").replaceAll("//.*|^\\s*/?\\*.*", "");
            for (String ruledOut : RULED_OUT) {
                Due.due("line " + (n + 1) + " has " + ruledOut, Pattern.compile(ruledOut).matcher(code).find() ? 1 : 0, 0);
            }
            boolean made = Pattern.compile("\\bnew\\b").matcher(code).find();
            Due.due("line " + (n + 1) + " makes rows once", made && !code.matches(MADE_ONCE) ? 1 : 0, 0);
            Due.due("line " + (n + 1) + " has signs 32 to 126 alone", line.matches("[ -~]*") ? 1 : 0, 1);
            if (code.matches("( {4}| {8})\\S.*\\) \\{")) {
                methodStart = n;
            }
            if (code.matches("( {4}| {8})\\}")) {
                Due.due("the method that ends at " + (n + 1) + " is short", n - methodStart < LONGEST_METHOD ? 1 : 0, 1);
                methodStart = n;
            }
        }
        Due.end();
    }
}
