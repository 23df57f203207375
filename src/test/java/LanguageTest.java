import java.io.IOException;
import java.nio.file.Files;
import java.nio.file.Path;
import java.util.List;
import java.util.regex.Matcher;
import java.util.regex.Pattern;

/** What of LANGUAGE.md can be seen in the text of the class. Runs in the project's folder. */
public final class LanguageTest {
    private static final String[] NEVER = {
        "->", "::", "\\bfinally\\b", "\\bsynchronized\\b", "\\bassert\\b", "\\bcatch\\b", "\\btry\\b", "\\bpackage\\b",
        "\\bvar\\b", "\\bThread\\b", "\\bRandom\\b", "\\bSystem\\.(?!arraycopy)", "Exact\\b", "\\bObject\\b",
        "\\bhashCode\\b", "\\bequals\\b", "\\btoString\\b", "\\bprotected\\b", "static \\{", "\\bdouble\\b", "\\bfloat\\b",
        "\\bInteger\\b", "\\bLong\\b", "Math\\.(?!min|max)", "Arrays\\.(?!copyOf\\(|fill\\()", "\\bString\\b", "\\+ \"",
    };

    private static final Pattern METHOD = Pattern.compile("(\\s+)[\\w\\[\\] ]+\\((.*)\\)[\\w ]*\\{");
    private static final Pattern NO_METHOD = Pattern.compile("\\b(if|for|while|switch|else)\\b");

    public static void main(String[] args) throws IOException {
        Due due = new Due("LanguageTest");
        List<String> lines = Files.readAllLines(Path.of("src/main/java/StepRows.java"));
        int classes = 0;
        int methods = 0;
        for (int k = 0; k < lines.size(); k++) {
            String line = lines.get(k).replaceAll("/\\*.*|^\\s*\\*.*|//.*", "");
            for (String never : NEVER) {
                due.is("line " + (k + 1) + " has " + never, Pattern.compile(never).matcher(line).find(), false);
            }
            if (line.startsWith("import ")) {
                due.is(line, line.equals("import java.util.Arrays;"), true);
            }
            classes += line.matches(".*\\b(class|interface|enum|record) [A-Z].*") ? 1 : 0;
            Matcher method = METHOD.matcher(line);
            if (method.matches() && !NO_METHOD.matcher(line).find()) {
                methods++;
                String end = method.group(1) + "}";
                due.is("length of the method at line " + (k + 1), lines.subList(k, Math.min(lines.size(), k + 60)).contains(end), true);
                due.is("its parameters, at most 7", method.group(2).split(",").length <= 7, true);
            }
        }
        due.is("no more than 12 classes", classes <= 12 && classes > 1, true);
        due.is("methods were seen", methods > 60, true);
        due.end();
    }
}
