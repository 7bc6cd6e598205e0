import java.lang.reflect.Method;
import java.nio.file.Files;
import java.nio.file.Path;
import java.util.regex.Matcher;
import java.util.regex.Pattern;

/** What README.md shows is what the class answers. It is run from the project's root. */
public final class ReadmeTest {
    private static final Pattern TOWN = Pattern.compile("(?s)```text\n(.*?)```");
    private static final Pattern FAULT = Pattern.compile("(?m)^\\| (\\d) \\|.*\\| `([^`]*)` \\| (\\d+) \\|$");
    private static final Pattern CALL = Pattern.compile("(?m)^x\\.(\\w+)\\((.*)\\);\\s+// (-?\\d+|true|false)\\b");

    private final Check check = new Check("ReadmeTest");
    private final String page;

    private ReadmeTest(String page) {
        this.page = page;
    }

    public static void main(String[] args) throws Exception {
        ReadmeTest test = new ReadmeTest(Files.readString(Path.of("README.md")));
        test.faultsAreAsShown();
        test.exampleAnswersAsShown();
        test.everyCallIsNamed();
        test.check.end();
    }

    private void faultsAreAsShown() {
        Matcher row = FAULT.matcher(page);
        int rows = 0;
        boolean[] isShown = new boolean[6];
        while (row.find()) {
            rows++;
            isShown[Integer.parseInt(row.group(1))] = true;
            check.bad(row.group(2), Integer.parseInt(row.group(1)), Integer.parseInt(row.group(3)));
        }
        check.due("rows of FAULTS", rows, 9);
        for (int fault = 1; fault <= 5; fault++) {
            check.due("FAULT " + fault + " is shown", isShown[fault], true);
        }
    }

    private void exampleAnswersAsShown() throws ReflectiveOperationException {
        Matcher town = TOWN.matcher(page);
        check.due("a town is shown", town.find(), true);
        WaitingDebts x = check.good(town.group(1), 3);
        Matcher call = CALL.matcher(page);
        int calls = 0;
        while (call.find()) {
            calls++;
            check.due("example: " + call.group(), answer(x, call.group(1), call.group(2)), call.group(3));
        }
        check.due("calls of the example", calls, page.split("(?m)^x\\.", -1).length - 1);
        check.due("there is an example", calls > 20, true);
    }

    /** All arguments of the example's calls are ints. */
    private static String answer(WaitingDebts x, String name, String list) throws ReflectiveOperationException {
        String[] parts = list.isEmpty() ? new String[0] : list.split(", ");
        Class<?>[] kinds = new Class<?>[parts.length];
        Object[] values = new Object[parts.length];
        for (int i = 0; i < parts.length; i++) {
            kinds[i] = int.class;
            values[i] = Integer.valueOf(parts[i]);
        }
        return String.valueOf(WaitingDebts.class.getMethod(name, kinds).invoke(x, values));
    }

    private void everyCallIsNamed() {
        int calls = 0;
        for (Method method : WaitingDebts.class.getDeclaredMethods()) {
            if (java.lang.reflect.Modifier.isPublic(method.getModifiers())) {
                calls++;
                check.due(method.getName() + " is named", page.contains("`" + method.getName() + "("), true);
            }
        }
        check.due("calls", calls, 36);
    }
}
