import java.lang.reflect.Constructor;
import java.lang.reflect.Field;
import java.lang.reflect.Method;
import java.lang.reflect.Modifier;
import java.nio.file.Files;
import java.nio.file.Path;
import java.util.List;
import java.util.Set;
import java.util.TreeSet;
import java.util.regex.Matcher;
import java.util.regex.Pattern;

/** What of LANGUAGE.md can be seen in the text of the source. It is run from the project's root. */
public final class SourceRulesTest {
    private static final String PUBLIC = "feed end town fault person owed sum wet pays aim stand hours offset clear undo redo will when throng meeting help plan "
        + "rings ring hide word lies step untell later fit sham ask image back about";

    /** The document's face, each method as its answer's type, its name and its arguments' types. */
    private static final Set<String> FACE = Set.of("int feed int int int int int", "int end int", "int town", "int fault int", "int person int int",
        "int owed int int", "int sum int boolean", "int wet int int", "int pays int", "int aim int int", "int stand int int", "int hours int",
        "int offset int int", "int clear", "boolean undo", "boolean redo", "int will int int int", "int when int int", "int throng int int int",
        "int meeting int int int", "int help int int int", "int plan int", "int rings", "int ring", "int hide int int int", "int word int int int",
        "int lies int", "int step int int int", "boolean untell int", "int later int", "int fit int int", "int sham int", "int ask int int int",
        "int image int", "int back int", "int about int");

    public static void main(String[] args) throws Exception {
        Check check = new Check("SourceRulesTest");
        String source = Files.readString(Path.of("src/main/java/WaitingDebts.java"));
        String code = source.replaceAll("(?s)/\\*.*?\\*/", "").replaceAll("//[^\n]*", "").replaceAll("\"[^\"\n]*\"", "\"\"");
        for (String word : List.of("\\bthrow", "\\btry\\b", "\\bcatch\\b", "\\bsynchronized\\b", "\\bassert\\b", "Exact\\b", "->", "::",
            "\\bpackage\\b", "\\bprotected\\b", "\\bdouble\\b", "\\bfloat\\b", "\\bObject\\b")) {
            check.due("rules 3 to 9: no " + word, count(code, word), 0);
        }
        check.due("rule 4: imports", count(code, "import "), 1);
        check.due("rule 4: import", code.contains("import java.util.Arrays;"), true);
        check.due("rule 1: public members", count(code, "\\bpublic\\b"), 1 + 1 + 36 + 2);
        for (String name : PUBLIC.split(" ")) {
            check.due("rule 1: one method is named " + name, count(code, "(int|boolean|void|\\]|[A-Z]\\w*) " + name + "\\("), 1);
        }
        check.due("rule 11: classes", count(code, "\\bclass [A-Z]") <= 12, true);
        check.due("rule 2: all inside are private, static, final", count(code, "\\bclass [A-Z]"), 1 + count(code, "private static final class [A-Z]"));
        check.due("rule 5: no static state", count(code, "\\bstatic (?!final|boolean \\w+\\(|int \\w+\\()"), 0);
        methodsAreShort(check, source);
        faceIsTheDocuments(check);
        fieldsAreFew(check, WaitingDebts.class);
        for (Class<?> inside : WaitingDebts.class.getDeclaredClasses()) {
            fieldsAreFew(check, inside);
        }
        check.due("rule 4: signs of the source", source.chars().allMatch(c -> c < 128), true);
        check.end();
    }

    private static void faceIsTheDocuments(Check check) {
        Set<String> shown = new TreeSet<>();
        for (Method method : WaitingDebts.class.getDeclaredMethods()) {
            if (Modifier.isPublic(method.getModifiers())) {
                StringBuilder row = new StringBuilder(method.getReturnType() + " " + method.getName());
                for (Class<?> type : method.getParameterTypes()) {
                    row.append(' ').append(type);
                }
                shown.add(row.toString());
                check.due("rule 1: an object's method: " + row, Modifier.isStatic(method.getModifiers()), false);
            } else {
                check.due("rule 1: private is " + method, Modifier.isPrivate(method.getModifiers()), true);
            }
        }
        check.due("rule 1: the face", shown.toString(), new TreeSet<>(FACE).toString());
        for (Field field : WaitingDebts.class.getDeclaredFields()) {
            boolean isConstant = Set.of("NONE", "GAP").contains(field.getName());
            int due = isConstant ? Modifier.PUBLIC | Modifier.STATIC | Modifier.FINAL : Modifier.PRIVATE;
            check.due("rule 1: field " + field, field.getModifiers() & (due | Modifier.PUBLIC | Modifier.PROTECTED), due);
        }
        Constructor<?>[] makers = WaitingDebts.class.getDeclaredConstructors();
        check.due("rule 1: constructors", makers.length, 1);
        check.due("rule 1: the constructor", makers[0].getModifiers() + " " + makers[0].getParameterCount(), Modifier.PUBLIC + " 0");
        check.due("rule 1: the class", WaitingDebts.class.getModifiers() & (Modifier.PUBLIC | Modifier.FINAL), Modifier.PUBLIC | Modifier.FINAL);
    }

    private static void fieldsAreFew(Check check, Class<?> one) {
        int fields = 0;
        for (Field field : one.getDeclaredFields()) {
            boolean isStatic = Modifier.isStatic(field.getModifiers());
            fields += isStatic ? 0 : 1;
            check.due("rule 5: static is final: " + field, isStatic && !Modifier.isFinal(field.getModifiers()), false);
        }
        check.due("rule 11: fields of " + one, fields <= 20, true);
    }

    private static int count(String text, String pattern) {
        Matcher matcher = Pattern.compile(pattern).matcher(text);
        int count = 0;
        while (matcher.find()) {
            count++;
        }
        return count;
    }

    private static void methodsAreShort(Check check, String source) {
        Matcher method = Pattern.compile("(?m)^( +)(?!private static final class)[^\n=;]*\\(([^)\n]*)\\) \\{\n((?!\\1\\}\n)[^\n]*\n)*\\1\\}\n").matcher(source);
        int methods = 0;
        while (method.find()) {
            if (method.group(1).length() > 8) {
                continue;
            }
            methods++;
            String head = method.group().substring(0, method.group().indexOf('\n')).trim();
            check.due("rule 11: length of " + head, count(method.group(), "\n") <= 60, true);
            check.due("rule 11: parameters of " + head, method.group(2).split(",").length <= 7, true);
        }
        check.due("methods were looked at", methods > 100, true);
    }
}
