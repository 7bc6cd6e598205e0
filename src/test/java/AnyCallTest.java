import java.util.Random;

/** Any numbers in any call in any state: nothing throws, every call ends, the same calls answer the same. */
public final class AnyCallTest {
    private static final int[] ODD = {Integer.MIN_VALUE, Integer.MIN_VALUE + 1, -1000001, -3, -2, -1, 0, 1, 2, 3, 4, 5, 6, 7, 9, 10, 13, 14, 20, 21,
        24, 29, 30, 40, 59, 60, 61, 99, 100, 199, 200, 201, 999, 1000, 1001, 1600, 2000, 100000, Integer.MAX_VALUE - 1, Integer.MAX_VALUE};
    private static final int CALLS = 37;

    public static void main(String[] args) {
        Check check = new Check("AnyCallTest");
        for (int run = 0; run < 400; run++) {
            long first = run(run);
            check.due("run " + run + " again", run(run) == first, true);
        }
        heavy(check);
        check.end();
    }

    private static long run(int seed) {
        Random chance = new Random(seed);
        WaitingDebts x = new WaitingDebts();
        long all = 0;
        // An object is used for 512 calls at most; a text takes up to 83 of them.
        for (int used = 0; used < 512 - 84; used++) {
            if (chance.nextInt(60) == 0) {
                String text = new Texts(chance).town();
                text = chance.nextInt(4) == 0 ? new Texts(chance).broken(text) : text;
                Check.tape(x, text);
                all = all * 31 + x.town();
                used += text.length() / 20 + 4;
            }
            all = all * 31 + call(x, chance);
        }
        return all;
    }

    private static int number(Random chance) {
        int kind = chance.nextInt(10);
        return kind == 0 ? chance.nextInt() : kind < 4 ? ODD[chance.nextInt(ODD.length)] : chance.nextInt(7);
    }

    private static int call(WaitingDebts x, Random chance) {
        int a = number(chance);
        int b = number(chance);
        int c = number(chance);
        switch (1 + chance.nextInt(CALLS)) {
            case 2: return x.feed(a, b, c, a ^ b, b ^ c);
            case 3: return x.end(a);
            case 4: return chance.nextInt(10) == 0 ? x.town() : 0;
            case 5: return x.fault(a);
            case 6: return x.person(a, b);
            case 7: return x.owed(a, b);
            case 8: return x.sum(a, b > 2);
            case 9: return x.wet(a, b);
            case 10: return x.pays(a);
            case 11: return x.aim(a, b);
            case 12: return x.stand(a, b);
            case 13: return x.hours(a);
            case 14: return x.offset(a, b);
            case 15: return x.clear();
            case 16: return x.undo() ? 1 : 0;
            case 17: return x.redo() ? 1 : 0;
            case 18: return x.will(a, b, c);
            case 19: return x.when(a, b);
            case 20: return x.throng(a, b, c);
            case 21: return x.meeting(a, b, c);
            case 22: return x.help(a, b, c);
            case 23: return x.plan(a);
            case 24: return x.rings();
            case 25: return x.ring();
            case 26: return x.hide(a, b, c);
            case 27: return x.word(a, b, c);
            case 28: return x.lies(a);
            case 29: return x.step(a, b, c);
            case 30: return x.untell(a) ? 1 : 0;
            case 31: return x.later(a);
            case 32: return x.fit(a, b);
            case 33: return x.sham(a);
            case 34: return x.ask(a, b, c);
            case 35: return x.image(a);
            case 36: return x.back(a);
            default: return x.about(a);
        }
    }

    /** The dearest calls on the largest town. */
    private static void heavy(Check check) {
        StringBuilder text = new StringBuilder("day 24;");
        for (int i = 0; i < 6; i++) {
            text.append("person ").append((char) ('a' + i)).append(" at ").append(i % 2).append(" open 0 to 24 chairs 3 coin 999;");
        }
        for (int i = 0; i < 20; i++) {
            text.append("debt ").append((char) ('a' + i / 5)).append(" to ").append((char) ('a' + (i % 5 + i / 5 + 1) % 6)).append(" 9999;");
        }
        text.append("law 1").append("-0*1+0*1".repeat(7)).append("+wet;interest owed").append("+0".repeat(29)).append(";rain 1").append("*1".repeat(19)).append(";");
        WaitingDebts x = Check.made(text.toString());
        check.due("units", x.about(10), 80);
        for (int i = 0; i < 6; i++) {
            x.aim(i, (i + 1) % 6);
        }
        check.due("word", x.word(0, 1, 60) >= 0, true);
        check.due("plan", x.plan(0), -1);
        check.due("help", x.help(0, 1, 0), -1);
        check.due("hide", x.hide(1, 60, 0) > 0, true);
        check.due("rings", x.rings(), 6 + 8 + 6);
    }
}
