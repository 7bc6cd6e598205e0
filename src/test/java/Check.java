import java.nio.charset.StandardCharsets;
import java.util.function.Supplier;

/** Counts answers that are not the ones that are due, and tells texts to a town. */
final class Check {
    private final String test;
    private int calls;
    private int wrong;

    Check(String test) {
        this.test = test;
    }

    void due(String call, long got, long want) {
        calls++;
        if (got != want) {
            wrong++;
            if (wrong <= 40) {
                System.out.println(test + ": " + call + " answered " + got + ", due is " + want);
            }
        }
    }

    void due(String call, boolean got, boolean want) {
        due(call, got ? 1 : 0, want ? 1 : 0);
    }

    boolean hasWrong() {
        return wrong > 0;
    }

    void end() {
        System.out.println(test + ": " + calls + " answers, " + wrong + " wrong");
        if (wrong > 0) {
            System.exit(1);
        }
    }

    /** The text comes on the TAPE, whole. */
    static void tape(WaitingDebts x, String text) {
        byte[] bytes = text.getBytes(StandardCharsets.ISO_8859_1);
        int length = x.about(9);
        for (int i = 0; i < bytes.length; i += 20) {
            x.feed(four(bytes, i), four(bytes, i + 4), four(bytes, i + 8), four(bytes, i + 12), four(bytes, i + 16));
        }
        x.end(length + bytes.length);
    }

    static int town(WaitingDebts x, String text) {
        tape(x, text);
        return x.town();
    }

    static WaitingDebts made(String text) {
        WaitingDebts x = new WaitingDebts();
        town(x, text);
        if (x.fault(0) != 0) {
            System.out.println("a town of a test has FAULT " + x.fault(0) + " at " + x.fault(1) + ": " + text);
            System.exit(1);
        }
        return x;
    }

    /** The text is a town of so many PEOPLE, without a FAULT. */
    WaitingDebts good(String text, int people) {
        WaitingDebts x = new WaitingDebts();
        due("town of " + text, town(x, text), people);
        due("fault(0) of " + text, x.fault(0), 0);
        due("fault(1) of " + text, x.fault(1), -1);
        return x;
    }

    /** The text has this FAULT first, at this place. */
    void bad(String text, int fault, int place) {
        WaitingDebts x = new WaitingDebts();
        due("town of " + text, town(x, text), -1);
        due("fault(0) of " + text, x.fault(0), fault);
        due("fault(1) of " + text, x.fault(1), place);
    }

    interface Call {
        int on(WaitingDebts x);
    }

    /** The call answers so, and whatever is called behind it answers as if it had not been made. */
    void doesNothing(String what, Supplier<WaitingDebts> made, Call call, int want) {
        WaitingDebts called = made.get();
        due(what, call.on(called), want);
        due(what + " shows as much", Shown.firstUnlike(Shown.of(called), Shown.of(made.get())), Shown.NOTHING_UNLIKE);
    }

    void due(String call, String got, String want) {
        calls++;
        if (!got.equals(want)) {
            wrong++;
            System.out.println(test + ": " + call + ": " + got + ", due is " + want);
        }
    }

    private static int four(byte[] bytes, int at) {
        int number = 0;
        for (int i = at; i < at + 4; i++) {
            number = number << 8 | (i < bytes.length ? bytes[i] & 255 : 0);
        }
        return number;
    }
}
