import java.io.IOException;
import java.nio.charset.StandardCharsets;
import java.nio.file.Files;
import java.nio.file.Path;
import java.util.List;
import java.util.regex.Matcher;
import java.util.regex.Pattern;

/** Some rules of LANGUAGE.md that a look at the source can tell; run from the project's directory. */
public final class LanguageTest {
    private static final String[] FORBIDDEN = {"->", "::", "\\bcatch\\b", "\\bfinally\\b", "\\bsynchronized\\b", "\\bassert\\b",
        "Exact\\b", "\\bSystem\\.(?!arraycopy)", "\\bMath\\.(?!max|min|abs)", "\\bInteger\\.(?!bitCount)", "\\blong\\b", "\\bdouble\\b",
        "\\bfloat\\b", "\\bObject\\b", "\\bprotected\\b", "\\bstatic (?!final)(?!int |boolean |void )", "\\bequals\\(",
        "\" \\+", "\\+ \"", "\\bpackage\\b", "[^\\x00-\\x7f]"};
    private static final Pattern METHOD = Pattern.compile("^(    |        )(public|private)[^=;]*\\(([^)]*)\\)[^;]*\\{$");

    public static void main(String[] args) throws IOException {
        List<String> lines = Files.readAllLines(Path.of("src/main/java/ClapValley.java"), StandardCharsets.UTF_8);
        int classes = 0;
        for (int i = 0; i < lines.size(); i++) {
            String line = lines.get(i);
            String code = line.replaceAll("//.*|^ *(/\\*)?\\*.*", "");
            for (String forbidden : FORBIDDEN) {
                Check.due("line " + (i + 1) + " has " + forbidden, false, Pattern.compile(forbidden).matcher(code).find());
            }
            boolean imports = code.startsWith("import ") && !code.equals("import java.util.NoSuchElementException;");
            Check.due("line " + (i + 1) + " imports", false, imports);
            classes += Pattern.compile("\\bclass [A-Z]").matcher(code).find() ? 1 : 0;
            Matcher method = METHOD.matcher(code);
            if (method.matches()) {
                Check.due("line " + (i + 1) + ": at most seven parameters", true, method.group(3).split(",").length <= 7);
                int end = i;
                while (!lines.get(end).equals(method.group(1) + "}")) {
                    end++;
                }
                Check.due("line " + (i + 1) + ": at most sixty lines", true, end - i <= 60);
            }
        }
        Check.due("at most twelve classes", true, classes <= 12);
        Check.end();
    }
}
