import java.util.ArrayList;
import java.util.List;

/**
 * Promises 1 to 37 by number: what is answered where one can't be, where there is none, where a number is too small or too
 * large; and that nothing is done then, which is seen by all that calls behind it show.
 */
public final class CallEdgesTest {
    private static final int MIN = Integer.MIN_VALUE;
    private static final int MAX = Integer.MAX_VALUE;
    private static final String STREET = "day 6;person a at 0 open 0 to 6 coin 10;person b at 2 open 1 to 4 chairs 1;person c at 5 open 0 to 6 rest 2 price 4;"
        + "debt a to b 100;debt a to c 30;debt b to a 40;debt c to b 20;law 20+seat*10+met*25-proxy*5+wet*3;interest owed/20;rain hour=3;";
    private static final int[] NOT_PEOPLE = {-1, -2, 3, 4, 6, MIN, MAX};
    private static final int[] NOT_WHAT = {-1, 2, 3, MIN, MAX};

    private final Check check = new Check("CallEdgesTest");

    public static void main(String[] args) {
        CallEdgesTest test = new CallEdgesTest();
        test.aNewObject();
        test.feed();
        test.end();
        test.town();
        test.townWithAFault();
        test.fault();
        test.person();
        test.owedAndSum();
        test.wetAndPays();
        test.aim();
        test.stand();
        test.hours();
        test.offset();
        test.clear();
        test.undoAndRedo();
        test.willAndWhen();
        test.throng();
        test.meeting();
        test.help();
        test.plan();
        test.ringsAndRing();
        test.hide();
        test.word();
        test.lies();
        test.step();
        test.untell();
        test.later();
        test.fitShamAsk();
        test.image();
        test.back();
        test.about();
        test.lookingDoesNothing();
        test.anyCallOnAnEmptyTown();
        test.check.end();
    }

    private void due(String what, int got, int want) {
        check.due(what, got, want);
    }

    /** A town where much is there that a call could spoil: ACTS done and undone, STEPS, a BOX, a FAULT, bytes, numbers that lie. */
    private static WaitingDebts busy() {
        WaitingDebts x = Check.made(STREET);
        x.later(5);
        x.step(0, 1, 2);
        x.step(2, 0, 4);
        x.later(2);
        x.step(1, 0, 2);
        x.untell(0);
        x.aim(0, 1);
        x.hours(3);
        x.image(1);
        x.stand(2, 0);
        x.aim(2, 1);
        x.undo();
        x.ring();
        Check.town(x, "day 1;");
        Check.tape(x, "day 7;");
        return x;
    }

    private void refused(String what, Check.Call call, int want) {
        check.doesNothing(what, CallEdgesTest::busy, call, want);
    }

    interface CallOfTwo {
        int on(WaitingDebts x, int person, int other);
    }

    private void refusedOfTwo(String what, CallOfTwo call, int want) {
        for (int nobody : NOT_PEOPLE) {
            refused(what + " of " + nobody + " to 1", x -> call.on(x, nobody, 1), want);
            refused(what + " of 1 to " + nobody, x -> call.on(x, 1, nobody), want);
            refused(what + " of " + nobody + " to himself", x -> call.on(x, nobody, nobody), want);
        }
        for (int p = 0; p < 3; p++) {
            int himself = p;
            refused(what + " of " + p + " to himself", x -> call.on(x, himself, himself), want);
        }
    }

    private void aNewObject() {
        int[] about = {0, 10, 0, 0, 0, 0, 0, 0, 0, 0, 0, 0, 0, 0};
        for (int what = 0; what < about.length; what++) {
            due("1: about(" + what + ") of an empty TOWN", new WaitingDebts().about(what), about[what]);
        }
        due("1: fault", new WaitingDebts().fault(0), 0);
        due("1: its place", new WaitingDebts().fault(1), -1);
        due("1: nothing lies there", new WaitingDebts().lies(0), -1000000);
        check.due("1: like the TOWN of an empty text", Shown.firstUnlike(Shown.of(new WaitingDebts()), Shown.of(Check.made(""))), Shown.NOTHING_UNLIKE);
    }

    private static WaitingDebts withBytes(int n) {
        WaitingDebts x = busy();
        StringBuilder text = new StringBuilder("day 8;law ");
        while (text.length() < n) {
            text.append(text.length() == n - 1 ? '1' : ' ');
        }
        x.end(0);
        Check.tape(x, text.toString());
        return x;
    }

    // NONE, and nothing comes, if there would be more than 1,600
    private void feed() {
        for (int n : new int[] {20, 1579, 1580}) {
            due("2: feed behind " + n, withBytes(n).feed(1, 2, 3, 4, 5), n + 20);
        }
        for (int n : new int[] {1581, 1582, 1599, 1600}) {
            check.doesNothing("2: feed behind " + n, () -> withBytes(n), x -> x.feed(';' << 24, 0, 0, 0, 0), -1);
            check.doesNothing("2: feed behind " + n, () -> withBytes(n), x -> x.feed(MIN, MAX, -1, 0, 1), -1);
        }
        WaitingDebts x = new WaitingDebts();
        due("2: of each number the highest first", x.feed(0x6c617720, 0x31323b72, 0x61696e20, 0x303b2020, 0x2020200a), 20);
        due("2: which is a TOWN", x.town() * 10 + x.about(11), 1);
        due("2: bytes above 127", x.feed(0x20202020, 0x202020ff, 0, 0, 0), 20);
        due("2: have a FAULT", x.town() * 100 + x.fault(0) * 10 + x.fault(1), -100 + 10 + 7);
    }

    // NONE, doing nothing, if it has not so many, or n is below 0
    private void end() {
        for (int n : new int[] {-1, -2, 7, 8, 20, 1600, MIN, MAX}) {
            refused("3: end(" + n + ")", x -> x.end(n), -1);
        }
        refused("3: as many as it has", x -> x.end(6), 6);
        for (int n = 0; n < 6; n++) {
            WaitingDebts x = busy();
            due("3: end", x.end(n), n);
            due("3: bytes then", x.about(9), n);
            due("3: those behind are gone", x.end(n + 1), -1);
        }
        due("3: 0 of an empty TAPE", new WaitingDebts().end(0), 0);
        due("3: 1 of an empty TAPE", new WaitingDebts().end(1), -1);
        WaitingDebts y = new WaitingDebts();
        Check.tape(y, "day 24;$$$");
        y.end(5);
        Check.tape(y, ";");
        due("3: what comes then comes behind those", y.town() * 100 + y.about(1), 2);
    }

    // all as told, no ACTS are kept, STEPS are none, nothing lies there, BOXES are empty then; the TIME stays
    private void town() {
        WaitingDebts x = busy();
        x.end(0);
        Check.tape(x, STREET);
        due("4: how many PEOPLE", x.town(), 3);
        WaitingDebts y = Check.made(STREET);
        y.later(7);
        check.due("4: like a new one at that TIME", Shown.firstUnlike(Shown.of(x), Shown.of(y)), Shown.NOTHING_UNLIKE);
        WaitingDebts z = busy();
        z.end(0);
        due("4: an empty TAPE is a TOWN", z.town(), 0);
        WaitingDebts w = new WaitingDebts();
        w.later(7);
        check.due("4: like an empty one at that TIME", Shown.firstUnlike(Shown.of(z), Shown.of(w)), Shown.NOTHING_UNLIKE);
        WaitingDebts u = late(1999);
        due("4: PEOPLE", Check.town(u, STREET), 3);
        check.due("4: like a new one, however late it was", Shown.firstUnlike(Shown.of(u), Shown.of(Check.made(STREET))), Shown.NOTHING_UNLIKE);
        for (int box = 0; box < 3; box++) {
            WaitingDebts v = busy();
            v.image(box);
            v.end(0);
            Check.town(v, STREET);
            due("4: BOX " + box + " is empty then", v.back(box), -1);
        }
    }

    // NONE: a FAULT (all stays)
    private void townWithAFault() {
        String other = "day 9;person x at 7 open 2 to 3 chairs 7 rest 6 price 5 coin 4;person y at 8 open 1 to 2;debt x to y 1;debt y to x 2;law 1;interest 2;rain 1;";
        String[] faults = {"$", "day", "person x", "debt x to y 1;", "debt x to z 1;", "person z at 21", "law", "?"};
        int[] kinds = {1, 2, 3, 3, 5, 4, 2, 1};
        for (int i = 0; i < faults.length; i++) {
            WaitingDebts x = busy();
            x.end(0);
            due("4: a FAULT", Check.town(x, other + faults[i]), -1);
            due("5: which", x.fault(0), kinds[i]);
            due("4: the TAPE is empty then", x.about(9), 0);
            check.due("4: all stays behind " + faults[i], Shown.firstUnlike(apartFromTheText(x), apartFromTheText(busy())), Shown.NOTHING_UNLIKE);
        }
        WaitingDebts y = Check.made("law 1;");
        due("4: FAULT of the first TOWN", Check.town(y, "law"), -1);
        due("5: of the latest town()", Check.town(y, "") + y.fault(0) * 100 + y.fault(1), -1);
    }

    private static List<String> apartFromTheText(WaitingDebts x) {
        List<String> rows = new ArrayList<>();
        for (String row : Shown.of(x)) {
            if (!row.startsWith("fault") && !row.startsWith("about(9)") && !row.startsWith("the TAPE")) {
                rows.add(row);
            }
        }
        return rows;
    }

    private void fault() {
        for (int what : new int[] {-1, 2, 3, MIN, MAX}) {
            refused("5: fault(" + what + ")", x -> x.fault(what), -1);
        }
        refused("5: its FAULT", x -> x.fault(0), 4);
        refused("5: its place", x -> x.fault(1), 4);
        WaitingDebts x = Check.made(STREET);
        due("5: no FAULT", x.fault(0), 0);
        due("5: no place", x.fault(1), -1);
        Check.town(x, "$");
        due("5: at the first byte", x.fault(1), 0);
    }

    private void person() {
        for (int nobody : NOT_PEOPLE) {
            for (int what = 0; what < 10; what++) {
                int which = what;
                refused("6: person(" + nobody + ", " + what + ")", x -> x.person(nobody, which), -2);
            }
        }
        for (int what : new int[] {-1, -2, 10, 11, MIN, MAX}) {
            for (int p = 0; p < 3; p++) {
                int who = p;
                refused("6: person(" + p + ", " + what + ")", x -> x.person(who, what), -2);
            }
        }
        int[] last = {5, -1, 0, 0, 5, 0, 6, 0, 2, 4};
        for (int what = 0; what < 10; what++) {
            int which = what;
            refused("6: person(2, " + what + ")", x -> x.person(2, which), last[which]);
        }
    }

    private void owedAndSum() {
        refusedOfTwo("7: owed", (x, p, o) -> x.owed(p, o), -1);
        refused("7: owed, nothing", x -> x.owed(1, 2), 0);
        for (int nobody : NOT_PEOPLE) {
            refused("8: what " + nobody + " owes", x -> x.sum(nobody, false), -1);
            refused("8: what " + nobody + " is owed", x -> x.sum(nobody, true), -1);
        }
        refused("8: owes", x -> x.sum(2, false), 20);
        refused("8: is owed", x -> x.sum(2, true), 30);
        WaitingDebts x = Check.made("person a at 1 open 0 to 1;person b at 1 open 0 to 1;person c at 1 open 0 to 1;debt a to b 9999;debt a to c 9999;debt b to c 9999;");
        due("8: in all", x.sum(0, false), 19998);
        due("8: in all", x.sum(2, true), 19998);
        due("8: nothing", x.sum(2, false) + x.sum(0, true), 0);
        StringBuilder text = new StringBuilder();
        for (int p = 0; p < 6; p++) {
            text.append("person ").append((char) ('a' + p)).append(" at 1 open 0 to 1;");
        }
        for (int o = 1; o < 6; o++) {
            text.append("debt a to ").append((char) ('a' + o)).append(' ').append(1 << o).append(';');
            text.append("debt ").append((char) ('a' + o)).append(" to a ").append(1 << 5 + o).append(';');
        }
        WaitingDebts y = Check.made(text + "debt f to b 1;debt f to e 3;");
        due("8: the first one owes all others", y.sum(0, false), 2 + 4 + 8 + 16 + 32);
        due("8: all others owe the first one", y.sum(0, true), 64 + 128 + 256 + 512 + 1024);
        due("8: the last one owes all others", y.sum(5, false), 1024 + 4);
        due("8: the last one is owed", y.sum(5, true), 32);
    }

    private void wetAndPays() {
        int[][] good = {{0, 0, 0}, {0, 2, 0}, {0, 3, 1}, {0, 4, 0}, {0, 5, 0}, {998, 3, 1}, {999, 0, 0}, {999, 3, 1}, {999, 5, 0}};
        for (int[] row : good) {
            refused("9: wet(" + row[0] + ", " + row[1] + ")", x -> x.wet(row[0], row[1]), row[2]);
        }
        int[][] bad = {{-1, 3}, {1000, 3}, {1001, 3}, {MIN, 3}, {MAX, 3}, {0, -1}, {0, 6}, {0, 7}, {0, 10}, {0, MIN}, {0, MAX}, {-1, -1}, {1000, 6}};
        for (int[] row : bad) {
            refused("9: wet(" + row[0] + ", " + row[1] + ")", x -> x.wet(row[0], row[1]), -1);
        }
        WaitingDebts day = Check.made("day 24;rain hour=23;");
        due("9: the last HOUR", day.wet(0, 23), 1);
        due("9: behind the last HOUR", day.wet(0, 24), -1);
        for (int nobody : NOT_PEOPLE) {
            refused("10: pays(" + nobody + ")", x -> x.pays(nobody), -1);
        }
        refused("10: one who waits", x -> x.pays(0), 33);
        refused("10: one without an AIM", x -> x.pays(2), 0);
    }

    private void aim() {
        for (int nobody : NOT_PEOPLE) {
            refused("11: aim of " + nobody, x -> x.aim(nobody, 1), -2);
            refused("11: no aim of " + nobody, x -> x.aim(nobody, -1), -2);
            if (nobody != -1) {
                refused("11: aim " + nobody, x -> x.aim(1, nobody), -2);
            }
        }
        for (int p = 0; p < 3; p++) {
            int himself = p;
            refused("11: himself", x -> x.aim(himself, himself), -2);
        }
        WaitingDebts x = busy();
        due("11: the one that was: none", x.aim(2, 0), -1);
        due("11: the one that was", x.aim(2, 1), 0);
        due("11: the same", x.aim(2, 1), 1);
        due("11: none", x.aim(2, -1), 1);
        due("11: none again", x.aim(2, -1), -1);
        due("11: each an ACT", x.about(5) * 10 + x.about(6), 80);
    }

    private void stand() {
        for (int nobody : NOT_PEOPLE) {
            refused("12: stand of " + nobody, x -> x.stand(nobody, 1), -1);
            refused("12: stand for " + nobody, x -> x.stand(1, nobody), -1);
            refused("12: stand of " + nobody + " for himself", x -> x.stand(nobody, nobody), -1);
        }
        WaitingDebts x = busy();
        due("12: for whom he was", x.stand(2, 2), 0);
        due("12: for himself", x.stand(2, 2), 2);
        due("12: for another one", x.stand(2, 1), 2);
        due("12: each an ACT", x.about(5) * 10 + x.about(6), 60);
    }

    private static WaitingDebts late(int hours) {
        WaitingDebts x = Check.made(STREET);
        x.aim(0, 1);
        for (int left = hours; left > 0; left -= 60) {
            x.hours(Math.min(left, 60));
        }
        return x;
    }

    // (0 .. 60); NONE, doing nothing, for another number, or if it would be above 2,000
    private void hours() {
        for (int n : new int[] {-1, -2, -60, 61, 62, 2000, MIN, MAX}) {
            refused("13: hours(" + n + ")", x -> x.hours(n), -1);
        }
        for (int n : new int[] {0, 1, 2, 59, 60}) {
            due("13: hours(" + n + ")", busy().hours(n), 3 + n);
        }
        int[][] rows = {{1940, 60}, {1941, 59}, {1990, 10}, {1999, 1}, {2000, 0}};
        for (int[] row : rows) {
            due("13: " + row[1] + " behind " + row[0], late(row[0]).hours(row[1]), 2000);
            WaitingDebts x = late(row[0]);
            int owed = x.owed(0, 2);
            int acts = x.about(5);
            due("13: one more behind " + row[0], x.hours(row[1] + 1), -1);
            due("13: nothing is done: HOURS", x.about(4), row[0]);
            due("13: nothing is done: the clock", x.about(2) * 6 + x.about(3), row[0]);
            due("13: nothing is done: ACTS", x.about(5), acts);
            due("13: nothing is done: owed", x.owed(0, 2), owed);
        }
    }

    private void offset() {
        refusedOfTwo("14: offset", (x, p, o) -> x.offset(p, o), -1);
        refused("14: one owes nothing", x -> x.offset(0, 2), -1);
        refused("14: the other one owes nothing", x -> x.offset(2, 0), -1);
        refused("14: one owes nothing", x -> x.offset(1, 2), -1);
        String two = "person a at 1 open 0 to 1;person b at 1 open 0 to 1;";
        int[][] rows = {{1, 1, 1}, {1, 9999, 1}, {9999, 1, 1}, {5, 4, 4}, {5, 5, 5}, {5, 6, 5}, {9999, 9999, 9999}};
        for (int[] row : rows) {
            for (int p = 0; p < 2; p++) {
                WaitingDebts x = Check.made(two + "debt a to b " + row[0] + ";debt b to a " + row[1] + ";");
                due("14: by how much", x.offset(p, 1 - p), row[2]);
                due("14: less by the smaller one", x.owed(0, 1), row[0] - row[2]);
                due("14: less by the smaller one", x.owed(1, 0), row[1] - row[2]);
                due("14: it would be 0", x.offset(p, 1 - p), -1);
            }
        }
    }

    private void clear() {
        String[] debts = {"", "debt a to b 5;", "debt a to b 5;debt b to c 5;", "debt a to b 5;debt b to c 5;debt a to c 5;"};
        for (String debt : debts) {
            check.doesNothing("15: clear of " + debt, () -> withoutRing(debt), x -> x.clear(), -1);
        }
        WaitingDebts x = busy();
        due("15: what it FREES", x.clear(), 80);
        due("15: an ACT", x.about(5) * 10 + x.about(6), 40);
        due("15: what lies there stays", x.about(12), 2);
        due("15: none is left", x.clear(), -1);
    }

    private static WaitingDebts withoutRing(String debts) {
        WaitingDebts x = Check.made("day 6;person a at 0 open 0 to 6 coin 10;person b at 2 open 1 to 4;person c at 5 open 0 to 6;" + debts);
        x.hours(1);
        x.aim(0, 1);
        x.undo();
        return x;
    }

    private void undoAndRedo() {
        check.doesNothing("16: undo of none", () -> Check.made(STREET), x -> x.undo() ? 1 : 0, 0);
        check.doesNothing("17: redo of none", () -> late(3), x -> x.redo() ? 1 : 0, 0);
        refused("16, 17: undo and redo", x -> x.undo() && x.redo() ? 1 : 0, 1);
        refused("17, 16: redo and undo", x -> x.redo() && x.undo() ? 1 : 0, 1);
        WaitingDebts x = busy();
        due("17: redo", x.redo() ? 1 : 0, 1);
        due("17: none more", x.redo() ? 1 : 0, 0);
        for (int i = 0; i < 4; i++) {
            due("16: undo", x.undo() ? 1 : 0, 1);
        }
        due("16: none more", x.undo() ? 1 : 0, 0);
        due("16: all are to be redone", x.about(5) * 10 + x.about(6), 4);
    }

    private void willAndWhen() {
        refusedOfTwo("18: will", (x, p, o) -> x.will(p, o, 5), -1);
        for (int n : new int[] {-1, -2, 201, 202, MIN, MAX}) {
            refused("18: will behind " + n, x -> x.will(0, 1, n), -1);
        }
        refused("18: will behind 0", x -> x.will(0, 1, 0), 70);
        refused("18: will behind 1", x -> x.will(0, 1, 1), 37);
        refused("18: will behind 200", x -> x.will(0, 1, 200), 0);
        refusedOfTwo("19: when", (x, p, o) -> x.when(p, o), -2);
        refused("19: when", x -> x.when(0, 1), 7);
        refused("19: nothing is owed now", x -> x.when(1, 2), 0);
        refused("19: not within 200", x -> x.when(0, 2), -1);
    }

    private void throng() {
        for (int nobody : NOT_PEOPLE) {
            refused("20: throng at " + nobody, x -> x.throng(nobody, 5, 0), -2);
            refused("20: throng at " + nobody, x -> x.throng(nobody, 5, 1), -2);
        }
        for (int n : new int[] {0, -1, 201, 202, MIN, MAX}) {
            refused("20: throng within " + n, x -> x.throng(1, n, 0), -2);
            refused("20: throng within " + n, x -> x.throng(1, n, 1), -2);
        }
        for (int what : NOT_WHAT) {
            refused("20: throng what " + what, x -> x.throng(1, 5, what), -2);
        }
        refused("20: throng within 1", x -> x.throng(1, 1, 0), 1);
        refused("20: throng within 1", x -> x.throng(1, 1, 1), 1);
        refused("20: throng within 200", x -> x.throng(1, 200, 0), 1);
        refused("20: nobody WAITS there", x -> x.throng(0, 200, 0), 0);
        refused("20: nobody WAITS there", x -> x.throng(0, 200, 1), -1);
    }

    private void meeting() {
        refusedOfTwo("21: meeting", (x, p, o) -> x.meeting(p, o, 5), -2);
        for (int n : new int[] {0, -1, 201, 202, MIN, MAX}) {
            refused("21: meeting within " + n, x -> x.meeting(0, 1, n), -2);
        }
        refused("21: they do not", x -> x.meeting(0, 1, 1), -1);
        refused("21: they do not", x -> x.meeting(0, 1, 200), -1);
    }

    private void help() {
        refusedOfTwo("22: help", (x, p, o) -> x.help(p, o, 0), -2);
        refusedOfTwo("22: help", (x, p, o) -> x.help(p, o, 1), -2);
        for (int what : NOT_WHAT) {
            refused("22: help what " + what, x -> x.help(0, 1, what), -2);
        }
        refused("22: nothing is owed now", x -> x.help(1, 2, 0), 0);
        refused("22: how many HOURS", x -> x.help(2, 1, 0), 1);
        refused("22: who", x -> x.help(2, 1, 1), 0);
        check.doesNothing("22: there is none", () -> Check.made("person a at 1 open 0 to 1;person b at 9 open 0 to 1;debt a to b 1;"), x -> x.help(0, 1, 0), -1);
        check.doesNothing("22: there is none", () -> Check.made("person a at 1 open 0 to 1;person b at 9 open 0 to 1;debt a to b 1;"), x -> x.help(0, 1, 1), -1);
    }

    /** Nothing lies there behind the call, and all else is as it was. */
    private void leavesNothing(String what, Check.Call call, int want) {
        refused(what + ", and nothing else is done", x -> call.on(x) * 1000 + x.about(12) * 100 + (x.lies(0) == -1000000 ? 0 : 1) + 0 * x.ring(), want * 1000);
    }

    private void plan() {
        for (int nobody : NOT_PEOPLE) {
            leavesNothing("23: plan of " + nobody, x -> x.plan(nobody), -1);
        }
        refused("23: plan, and what lies there is laid again", x -> x.plan(0) + 0 * x.ring(), 21);
        WaitingDebts x = Check.made("person a at 1 open 0 to 1;person b at 9 open 0 to 1;debt a to b 1;debt b to a 1;");
        x.ring();
        due("23: there is none", x.plan(0), -1);
        due("23: nothing lies there", x.about(12), 0);
        due("23: nothing lies there", x.lies(0), -1000000);
        WaitingDebts y = Check.made(STREET);
        y.ring();
        y.offset(0, 1);
        due("23: he owes nothing", y.plan(1), 0);
        due("23: no order lies there", y.about(12), 0);
    }

    private void ringsAndRing() {
        refused("24: rings", x -> x.rings(), 2);
        refused("25: ring", x -> x.ring(), 80);
        WaitingDebts x = Check.made(STREET);
        x.plan(0);
        due("24: what lies there stays behind rings", x.rings() * 10 + x.about(12), 22);
        due("24: what lies there stays behind rings", x.lies(0) * 10 + x.lies(1), 21);
        x.clear();
        due("24: none", x.rings(), 0);
        due("24: what lies there stays behind clear", x.about(12), 2);
        due("24: what lies there stays behind clear", x.lies(0) * 10 + x.lies(1), 21);
        due("25: 0 if there is none", x.ring(), 0);
        due("25: nothing lies there then", x.about(12), 0);
        due("25: nothing lies there then", x.lies(0), -1000000);
    }

    private void hide() {
        for (int nobody : NOT_PEOPLE) {
            refused("26: hide of " + nobody, x -> x.hide(nobody, 5, 0), -2);
            refused("26: hide of " + nobody, x -> x.hide(nobody, 5, 1), -2);
        }
        for (int n : new int[] {0, -1, 61, 62, MIN, MAX}) {
            refused("26: hide for " + n, x -> x.hide(1, n, 0), -2);
            refused("26: hide for " + n, x -> x.hide(1, n, 1), -2);
        }
        for (int what : NOT_WHAT) {
            refused("26: hide what " + what, x -> x.hide(1, 5, what), -2);
        }
        refused("26: hide for 1", x -> x.hide(1, 1, 0), 90);
        refused("26: hide for 1", x -> x.hide(1, 1, 1), 0);
        refused("26: hide for 60", x -> x.hide(2, 60, 1), 0);
    }

    private void word() {
        for (int nobody : NOT_PEOPLE) {
            leavesNothing("27: word of " + nobody, x -> x.word(nobody, 1, 5), -1);
            leavesNothing("27: word to " + nobody, x -> x.word(1, nobody, 5), -1);
        }
        for (int p = 0; p < 3; p++) {
            int himself = p;
            leavesNothing("27: word to himself", x -> x.word(himself, himself, 5), -1);
        }
        for (int n : new int[] {0, -1, 61, 62, MIN, MAX}) {
            leavesNothing("27: word within " + n, x -> x.word(0, 1, n), -1);
        }
        leavesNothing("27: in no way", x -> x.word(0, 2, 5), 0);
        refused("27: word within 1, and what lies there is laid again", x -> x.word(0, 1, 1) + 0 * x.ring(), 43 + 53 + 60);
        refused("27: word within 60, and what lies there is laid again", x -> x.word(1, 2, 60) + 0 * x.ring(), 5 * 99);
        WaitingDebts x = busy();
        due("27: ways", x.word(0, 1, 1), 43 + 53 + 60);
        due("27: two numbers lie there", x.about(12), 2);
        due("27: which number", x.lies(0), 0);
        due("27: what is told", x.lies(1), 57);
    }

    private void lies() {
        for (int i : new int[] {-1, -2, 2, 3, 6, MIN, MAX}) {
            refused("28: lies(" + i + ")", x -> x.lies(i), -1000000);
        }
        refused("28: the first", x -> x.lies(0), 0);
        refused("28: the last", x -> x.lies(1), 1);
        StringBuilder text = new StringBuilder();
        for (int p = 0; p < 6; p++) {
            text.append("person ").append((char) ('a' + p)).append(" at 3 open 0 to 1;");
        }
        for (int p = 0; p < 6; p++) {
            text.append("debt ").append((char) ('a' + p)).append(" to ").append((char) ('a' + (p + 1) % 6)).append(" 1;");
        }
        WaitingDebts x = Check.made(text.toString());
        x.ring();
        due("28: six lie there", x.about(12), 6);
        due("28: the sixth", x.lies(5), 5);
        due("28: no seventh", x.lies(6), -1000000);
    }

    private void step() {
        for (int nobody : NOT_PEOPLE) {
            refused("29: step of " + nobody, x -> x.step(nobody, 0, 0), -1);
        }
        for (int hour : new int[] {-1, 6, 7, 24, MIN, MAX}) {
            refused("29: step in HOUR " + hour, x -> x.step(0, hour, 0), -1);
        }
        for (int place : new int[] {-1, 21, 22, MIN, MAX}) {
            refused("29: step at " + place, x -> x.step(0, 0, place), -1);
        }
        check.doesNothing("29: there are 30", () -> withSteps(30), x -> x.step(0, 0, 9), -1);
        due("29: there are 29", withSteps(29).step(0, 0, 9), 29);
        due("29: its number", busy().step(0, 5, 20), 3);
        due("29: its number", busy().step(2, 0, 0), 3);
    }

    private static WaitingDebts withSteps(int n) {
        WaitingDebts x = busy();
        for (int i = 3; i < n; i++) {
            x.step(1, 0, 2);
        }
        return x;
    }

    private void untell() {
        for (int number : new int[] {-1, 3, 4, 29, 30, MIN, MAX}) {
            refused("30: untell(" + number + ")", x -> x.untell(number) ? 1 : 0, 0);
        }
        refused("30: so already", x -> x.untell(0) ? 1 : 0, 0);
        WaitingDebts x = busy();
        due("30: UNTOLD", x.untell(2) ? 1 : 0, 1);
        due("30: so already", x.untell(2) ? 1 : 0, 0);
        due("30: STEPS are as many", x.about(7), 3);
    }

    private void later() {
        for (int by : new int[] {-1, -1000, 1001, 1002, MIN, MAX}) {
            refused("31: later(" + by + ")", x -> x.later(by), -1);
        }
        due("31: later(0)", busy().later(0), 7);
        due("31: later(1)", busy().later(1), 8);
        due("31: later(1000)", busy().later(1000), 1007);
        check.doesNothing("31: it would be above 100,000", () -> atTime(99999), x -> x.later(2), -1);
        check.doesNothing("31: it would be above 100,000", () -> atTime(99001), x -> x.later(1000), -1);
        check.doesNothing("31: it would be above 100,000", () -> atTime(100000), x -> x.later(1), -1);
        due("31: it is 100,000", atTime(99999).later(1), 100000);
        due("31: it is 100,000", atTime(99000).later(1000), 100000);
    }

    private static WaitingDebts atTime(int time) {
        WaitingDebts x = Check.made(STREET);
        for (int left = time; left > 0; left -= 1000) {
            x.later(Math.min(left, 1000));
        }
        return x;
    }

    private void fitShamAsk() {
        for (int nobody : NOT_PEOPLE) {
            refused("32: fit of " + nobody, x -> x.fit(nobody, 7), -1);
            refused("34: ask of " + nobody, x -> x.ask(nobody, 0, 7), -1);
            refused("34: ask of " + nobody, x -> x.ask(nobody, 1, 7), -1);
        }
        for (int what : NOT_WHAT) {
            refused("34: ask what " + what, x -> x.ask(0, what, 7), -1);
        }
        int[] known = {MIN, -1, 4, 5, 6, 7, 8, MAX};
        int[] ofFirst = {7, 7, 7, 6, 6, 7, 7, 7};
        int[] ofLast = {7, 7, 7, 3, 3, 3, 3, 3};
        for (int i = 0; i < known.length; i++) {
            int k = known[i];
            refused("32: fit(0, " + k + ")", x -> x.fit(0, k), ofFirst[i]);
            refused("32: fit(2, " + k + ")", x -> x.fit(2, k), ofLast[i]);
            refused("33: sham(" + k + ")", x -> x.sham(k), 0);
            refused("34: ask(2, 1, " + k + ")", x -> x.ask(2, 1, k), 1);
        }
        WaitingDebts x = busy();
        x.step(1, 0, 7);
        refused("33: nobody is SHAM", y -> y.sham(7), 0);
        due("33: one is", x.sham(7), 2);
        due("34: none FITS", x.ask(1, 0, 7), -1);
        due("34: none FITS", x.ask(1, 1, 7), -1);
    }

    private void image() {
        for (int box : new int[] {-1, -2, 3, 4, MIN, MAX}) {
            refused("35: image(" + box + ")", x -> x.image(box), -1);
        }
        for (int box = 0; box < 3; box++) {
            WaitingDebts x = busy();
            due("35: HOURS that were", x.image(box), 3);
            due("35: no ACT", x.about(5) * 10 + x.about(6), 31);
            x.hours(5);
            due("35: HOURS that were", x.image((box + 1) % 3), 8);
            due("36: of each its own", x.back(box), 3);
            due("36: of each its own", x.back((box + 1) % 3), 8);
        }
        due("35: of an empty TOWN", new WaitingDebts().image(2), 0);
        check.due("35: what it was is kept in it alone", Shown.firstUnlike(imaged(), Shown.of(busy()).subList(0, imaged().size())), Shown.NOTHING_UNLIKE);
    }

    /** What is shown behind image(0) up to the BOXES. */
    private static List<String> imaged() {
        WaitingDebts x = busy();
        x.image(0);
        List<String> rows = new ArrayList<>();
        for (String row : Shown.of(x)) {
            if (row.startsWith("back")) {
                break;
            }
            rows.add(row);
        }
        return rows;
    }

    private void back() {
        for (int box : new int[] {-1, -2, 0, 2, 3, 4, MIN, MAX}) {
            refused("36: back(" + box + ")", x -> x.back(box), -1);
        }
        WaitingDebts x = busy();
        x.redo();
        x.hours(9);
        x.offset(0, 1);
        due("36: HOURS that were", x.back(1), 3);
        due("36: no ACTS are kept then", x.about(5) * 10 + x.about(6), 0);
        due("36: none to undo", x.undo() ? 1 : 0, 0);
        due("36: none to redo", x.redo() ? 1 : 0, 0);
        due("36: where he stands", x.person(0, 0) * 10 + x.person(2, 0), 25);
        due("36: AIMS", x.person(0, 1) * 10 + x.person(2, 1), 9);
        due("36: for whom", x.person(2, 2), 2);
        due("36: debts", x.owed(0, 1) * 100 + x.owed(1, 0), 7040);
        due("36: the clock", x.about(2) * 100 + x.about(3) * 10 + x.about(4), 33);
        due("36: STEPS stay", x.about(7), 3);
        due("36: the TIME stays", x.about(8), 7);
        due("36: what lies there stays", x.about(12), 2);
        due("36: the TAPE stays", x.about(9), 6);
        x.hours(2);
        due("36: it is kept yet", x.back(1), 3);
    }

    private void about() {
        int[] want = {3, 6, 0, 3, 3, 3, 1, 3, 7, 6, 13, 5, 2, 4};
        for (int what = 0; what < want.length; what++) {
            int which = what;
            refused("37: about(" + what + ")", x -> x.about(which), want[which]);
        }
        WaitingDebts y = Check.made("person a at 1 open 0 to 1;person b at 1 open 0 to 1;debt a to b 61;debt b to a 2;");
        due("37: two debts", y.about(13), 2);
        y.aim(0, 1);
        y.hours(1);
        due("37: a debt of 1 is one of more than 0", y.about(13) * 10 + y.owed(0, 1), 21);
        y.hours(10);
        due("37: a debt of 0 is not", y.about(13), 1);
        for (int what : new int[] {-1, -2, 14, 15, MIN, MAX}) {
            refused("37: about(" + what + ")", x -> x.about(what), -1);
        }
    }

    // (From what is now; nothing is done.)
    private void lookingDoesNothing() {
        for (int p = 0; p < 3; p++) {
            for (int o = 0; o < 3; o++) {
                int one = p;
                int other = o;
                refused("looking", x -> {
                    x.owed(one, other);
                    x.pays(one);
                    x.will(one, other, 200);
                    x.when(one, other);
                    x.throng(one, 200, 0);
                    x.meeting(one, other, 200);
                    x.help(one, other, 0);
                    x.plan(one);
                    x.rings();
                    x.hide(one, 60, 0);
                    x.word(one, other, 60);
                    x.ask(one, 0, 7);
                    return x.ring();
                }, 80);
            }
        }
    }

    private void anyCallOnAnEmptyTown() {
        List<Check.Call> calls = List.of(x -> x.person(0, 0), x -> x.owed(0, 1), x -> x.sum(0, true), x -> x.pays(0), x -> x.aim(0, -1), x -> x.aim(0, 1),
            x -> x.stand(0, 0), x -> x.offset(0, 1), x -> x.clear(), x -> x.undo() ? 1 : -1, x -> x.redo() ? 1 : -1, x -> x.will(0, 1, 0), x -> x.when(0, 1),
            x -> x.throng(0, 1, 0), x -> x.meeting(0, 1, 1), x -> x.help(0, 1, 0), x -> x.plan(0), x -> x.rings(), x -> x.ring(), x -> x.hide(0, 1, 0),
            x -> x.word(0, 1, 1), x -> x.lies(0), x -> x.step(0, 0, 0), x -> x.untell(0) ? 1 : -1, x -> x.fit(0, 0), x -> x.sham(0), x -> x.ask(0, 0, 0),
            x -> x.back(0), x -> x.wet(0, 10), x -> x.wet(0, 0));
        int[] want = {-2, -1, -1, -1, -2, -2, -1, -1, -1, -1, -1, -1, -2, -2, -2, -2, -1, 0, 0, -2, -1, -1000000, -1, -1, -1, 0, -1, -1, -1, 0};
        for (int i = 0; i < want.length; i++) {
            check.doesNothing("call " + i + " on an empty TOWN", WaitingDebts::new, calls.get(i), want[i]);
        }
    }
}
