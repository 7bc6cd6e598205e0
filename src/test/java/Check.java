import java.nio.charset.StandardCharsets;

/** Counts answers that are not the ones that are due, and tells texts to a town. */
final class Check {
    private final String test;
    private int calls;
    private int wrong;

    Check(String test) {
        this.test = test;
    }

    void due(String call, long got, long want) {
        calls++;
        if (got != want) {
            wrong++;
            if (wrong <= 40) {
                System.out.println(test + ": " + call + " answered " + got + ", due is " + want);
            }
        }
    }

    void due(String call, boolean got, boolean want) {
        due(call, got ? 1 : 0, want ? 1 : 0);
    }

    boolean hasWrong() {
        return wrong > 0;
    }

    void end() {
        System.out.println(test + ": " + calls + " answers, " + wrong + " wrong");
        if (wrong > 0) {
            System.exit(1);
        }
    }

    /** The text comes on the TAPE, whole. */
    static void tape(WaitingDebts x, String text) {
        byte[] bytes = text.getBytes(StandardCharsets.ISO_8859_1);
        int length = x.about(9);
        for (int i = 0; i < bytes.length; i += 20) {
            x.feed(four(bytes, i), four(bytes, i + 4), four(bytes, i + 8), four(bytes, i + 12), four(bytes, i + 16));
        }
        x.end(length + bytes.length);
    }

    static int town(WaitingDebts x, String text) {
        tape(x, text);
        return x.town();
    }

    static WaitingDebts made(String text) {
        WaitingDebts x = new WaitingDebts();
        town(x, text);
        if (x.fault(0) != 0) {
            System.out.println("a town of a test has FAULT " + x.fault(0) + " at " + x.fault(1) + ": " + text);
            System.exit(1);
        }
        return x;
    }

    private static int four(byte[] bytes, int at) {
        int number = 0;
        for (int i = at; i < at + 4; i++) {
            number = number << 8 | (i < bytes.length ? bytes[i] & 255 : 0);
        }
        return number;
    }
}
