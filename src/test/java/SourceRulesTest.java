import java.nio.file.Files;
import java.nio.file.Path;
import java.util.List;
import java.util.regex.Matcher;
import java.util.regex.Pattern;

/** What of LANGUAGE.md can be seen in the text of the source. It is run from the project's root. */
public final class SourceRulesTest {
    private static final String PUBLIC = "feed end town fault person owed sum wet pays aim stand hours offset clear undo redo will when throng meeting help plan "
        + "rings ring hide word lies step untell later fit sham ask image back about";

    public static void main(String[] args) throws Exception {
        Check check = new Check("SourceRulesTest");
        String source = Files.readString(Path.of("src/main/java/WaitingDebts.java"));
        String code = source.replaceAll("(?s)/\\*.*?\\*/", "").replaceAll("//[^\n]*", "").replaceAll("\"[^\"\n]*\"", "\"\"");
        for (String word : List.of("\\bthrow", "\\btry\\b", "\\bcatch\\b", "\\bsynchronized\\b", "\\bassert\\b", "Exact\\b", "->", "::",
            "\\bpackage\\b", "\\bprotected\\b", "\\bdouble\\b", "\\bfloat\\b", "\\bObject\\b")) {
            check.due("rules 3 to 9: no " + word, count(code, word), 0);
        }
        check.due("rule 4: imports", count(code, "import "), 1);
        check.due("rule 4: import", code.contains("import java.util.Arrays;"), true);
        check.due("rule 1: public members", count(code, "\\bpublic\\b"), 1 + 1 + 36 + 2);
        for (String name : PUBLIC.split(" ")) {
            check.due("rule 1: one method is named " + name, count(code, "(int|boolean|void|\\]|[A-Z]\\w*) " + name + "\\("), 1);
        }
        check.due("rule 11: classes", count(code, "\\bclass [A-Z]") <= 12, true);
        check.due("rule 2: all inside are private, static, final", count(code, "\\bclass [A-Z]"), 1 + count(code, "private static final class [A-Z]"));
        check.due("rule 5: no static state", count(code, "\\bstatic (?!final|boolean \\w+\\(|int \\w+\\()"), 0);
        methodsAreShort(check, source);
        check.due("rule 4: signs of the source", source.chars().allMatch(c -> c < 128), true);
        check.end();
    }

    private static int count(String text, String pattern) {
        Matcher matcher = Pattern.compile(pattern).matcher(text);
        int count = 0;
        while (matcher.find()) {
            count++;
        }
        return count;
    }

    private static void methodsAreShort(Check check, String source) {
        Matcher method = Pattern.compile("(?m)^( +)(?!private static final class)[^\n=;]*\\(([^)\n]*)\\) \\{\n((?!\\1\\}\n)[^\n]*\n)*\\1\\}\n").matcher(source);
        int methods = 0;
        while (method.find()) {
            if (method.group(1).length() > 8) {
                continue;
            }
            methods++;
            String head = method.group().substring(0, method.group().indexOf('\n')).trim();
            check.due("rule 11: length of " + head, count(method.group(), "\n") <= 60, true);
            check.due("rule 11: parameters of " + head, method.group(2).split(",").length <= 7, true);
        }
        check.due("methods were looked at", methods > 100, true);
    }
}
