import java.util.List;

/** "Terms" of the document, the ACTS: how many are kept, what is one and what is none, what UNDO and REDO bring back and what they leave. */
public final class ActEdgesTest {
    private static final String STREET = "day 6;person a at 0 open 0 to 6 coin 10;person b at 2 open 1 to 4 chairs 1;person c at 5 open 0 to 6 rest 2 price 4;"
        + "debt a to b 100;debt a to c 30;debt b to a 40;debt c to b 20;law 20+seat*10;interest owed/20;";

    private final Check check = new Check("ActEdgesTest");

    public static void main(String[] args) {
        ActEdgesTest test = new ActEdgesTest();
        test.noneAtFirst();
        test.fortyAreKept();
        test.theOldestGo();
        test.fortyAreKeptOfEachSort();
        test.eachSortIsUndoneAndRedone();
        test.coinsAreUndone();
        test.theLatestThatWasNot();
        test.tillAnotherAct();
        test.otherCallsAreNoActs();
        test.refusedCallsAreNoActs();
        test.whatIsNotUndone();
        test.hoursOfUndoneActsCountNoMore();
        test.check.end();
    }

    private void due(String what, int got, int want) {
        check.due(what, got, want);
    }

    private void due(String what, boolean got, boolean want) {
        check.due(what, got, want);
    }

    private static int acts(WaitingDebts x) {
        return x.about(5) * 100 + x.about(6);
    }

    private void noneAtFirst() {
        for (WaitingDebts x : List.of(new WaitingDebts(), Check.made(STREET))) {
            due("ACTS at first", acts(x), 0);
            due("undo: false if there is none", x.undo(), false);
            due("redo: false if there is none", x.redo(), false);
            due("ACTS then", acts(x), 0);
            x.hours(1);
            due("undo of one", x.undo(), true);
            due("undo of none", x.undo(), false);
            due("redo of one", x.redo(), true);
            due("redo of none", x.redo(), false);
            due("HOURS", x.about(4), 1);
        }
    }

    // 40 at most are kept, the oldest go
    private void fortyAreKept() {
        for (int n : new int[] {1, 2, 38, 39, 40, 41, 42, 80, 81, 82, 100}) {
            WaitingDebts x = Check.made(STREET);
            for (int i = 0; i < n; i++) {
                x.hours(1);
            }
            int kept = Math.min(n, 40);
            due("kept of " + n, acts(x), kept * 100);
            for (int i = 1; i <= kept; i++) {
                due("undo " + i + " of " + n, x.undo(), true);
                due("HOURS behind it", x.about(4), n - i);
            }
            due("undo of one more than is kept", x.undo(), false);
            due("nothing is done", x.about(4), n - kept);
            due("can be redone", acts(x), kept);
            for (int i = 1; i <= kept; i++) {
                due("redo " + i + " of " + n, x.redo(), true);
                due("HOURS behind it", x.about(4), n - kept + i);
            }
            due("redo of one more", x.redo(), false);
            due("nothing is done", x.about(4), n);
            due("can be undone", acts(x), kept * 100);
        }
    }

    private void theOldestGo() {
        WaitingDebts x = Check.made(STREET);
        for (int i = 0; i < 40; i++) {
            x.aim(0, 1 + i % 2);
        }
        x.undo();
        due("39 and one to be redone", acts(x), 3901);
        x.hours(1);
        due("a fortieth: none goes", acts(x), 4000);
        x.hours(1);
        due("one more: the oldest goes", acts(x), 4000);
        for (int i = 0; i < 40; i++) {
            due("undo", x.undo(), true);
        }
        due("what the oldest did stays", x.person(0, 1), 1);
        due("undo of none", x.undo(), false);
        due("the AIM of the oldest", x.person(0, 1), 1);
        due("an ACT behind it", x.aim(0, -1), 1);
        due("that one alone is kept", acts(x), 100);
    }

    private static int act(WaitingDebts x, int sort, int i) {
        switch (sort) {
            case 0: return x.aim(0, 1 + i % 2);
            case 1: return x.stand(0, i % 3);
            case 2: return x.hours(i % 2);
            case 3: return i % 2 == 0 ? x.aim(1, 0) : x.aim(1, -1);
            default: return i % 2 == 0 ? x.stand(1, 1) : x.stand(1, 2);
        }
    }

    private void fortyAreKeptOfEachSort() {
        for (int sort = 0; sort < 5; sort++) {
            WaitingDebts x = Check.made(STREET);
            for (int i = 0; i < 43; i++) {
                act(x, sort, i);
                due("kept of sort " + sort + " behind " + (i + 1), acts(x), Math.min(i + 1, 40) * 100);
            }
        }
        // Debts can be OFFSET or cleared but once each; they come behind 39 and 40 others.
        for (int others : new int[] {39, 40}) {
            for (int sort = 0; sort < 2; sort++) {
                WaitingDebts x = Check.made(STREET);
                for (int i = 0; i < others; i++) {
                    x.hours(0);
                }
                due("by how much, or what is freed", sort == 0 ? x.offset(0, 1) : x.clear() / 2, 40);
                due("kept", acts(x), 4000);
                for (int i = 0; i < 40; i++) {
                    x.undo();
                }
                due("all is back", x.owed(0, 1) * 100 + x.owed(1, 0), 10040);
                due("undo of none", x.undo(), false);
                due("redo of 39", redone(x, 39), 39);
                due("not yet done again", x.owed(1, 0), 40);
                due("redo of the last", x.redo(), true);
                due("done again", x.owed(0, 1) * 100 + x.owed(1, 0), 6000);
            }
        }
    }

    private static int redone(WaitingDebts x, int n) {
        int done = 0;
        for (int i = 0; i < n && x.redo(); i++) {
            done++;
        }
        return done;
    }

    // one has another AIM; is there for another one; so many HOURS go by; two are OFFSET; the BEST RING is cleared
    private void eachSortIsUndoneAndRedone() {
        List<Check.Call> sorts = List.of(x -> x.aim(2, 1), x -> x.aim(0, -1), x -> x.stand(0, 2), x -> x.stand(2, 2), x -> x.hours(0), x -> x.hours(1),
            x -> x.hours(5), x -> x.hours(60), x -> x.offset(0, 1), x -> x.clear());
        for (int i = 0; i < sorts.size(); i++) {
            WaitingDebts undone = started();
            sorts.get(i).on(undone);
            due("ACT " + i + " is one", acts(undone), 400);
            due("undo of ACT " + i, undone.undo(), true);
            check.due("all as it was ahead of ACT " + i, Shown.firstUnlike(moves(undone), moves(started())), Shown.NOTHING_UNLIKE);
            WaitingDebts once = started();
            sorts.get(i).on(once);
            due("redo of ACT " + i, undone.redo(), true);
            check.due("all as it was behind ACT " + i, Shown.firstUnlike(moves(undone), moves(once)), Shown.NOTHING_UNLIKE);
        }
    }

    private static WaitingDebts started() {
        WaitingDebts x = Check.made(STREET);
        x.aim(0, 1);
        x.stand(2, 0);
        x.hours(3);
        return x;
    }

    /** What moves in a town, as an ACT can change it. */
    private static List<String> moves(WaitingDebts x) {
        StringBuilder all = new StringBuilder();
        for (int p = 0; p < 3; p++) {
            for (int what = 0; what < 4; what++) {
                all.append(x.person(p, what)).append(' ');
            }
            for (int o = 0; o < 3; o++) {
                all.append(x.owed(p, o)).append(' ');
            }
        }
        return List.of(all.toString(), "clock " + x.about(2) + " " + x.about(3) + " " + x.about(4));
    }

    private void coinsAreUndone() {
        WaitingDebts x = Check.made("person a at 3 open 0 to 9 coin 9;person b at 3 open 0 to 9;person c at 3 open 0 to 9 price 4;debt a to b 900;");
        x.aim(2, 1);
        x.stand(2, 0);
        x.image(0);
        x.hours(2);
        due("coins", x.person(0, 3) * 10 + x.person(2, 3), 18);
        x.image(1);
        x.undo();
        due("coins behind undo", x.person(0, 3) * 10 + x.person(2, 3), 90);
        due("what is owed behind undo", x.owed(0, 1), 900);
        x.redo();
        due("coins behind redo", x.person(0, 3) * 10 + x.person(2, 3), 18);
        x.back(0);
        due("coins of a BOX", x.person(0, 3) * 10 + x.person(2, 3), 90);
        x.back(1);
        due("coins of another BOX", x.person(0, 3) * 10 + x.person(2, 3), 18);
    }

    // UNDO takes back the latest ACT that was not, REDO does that again which was taken back last
    private void theLatestThatWasNot() {
        WaitingDebts x = Check.made(STREET);
        x.aim(0, 1);
        x.stand(0, 2);
        x.hours(2);
        due("undo", x.undo(), true);
        due("the latest is undone", x.about(4) * 100 + x.person(0, 2) * 10 + x.person(0, 1), 21);
        due("undo", x.undo(), true);
        due("then the one ahead of it", x.person(0, 2) * 10 + x.person(0, 1), 1);
        due("redo", x.redo(), true);
        due("that which was taken back last", x.about(4) * 100 + x.person(0, 2) * 10 + x.person(0, 1), 21);
        due("undo", x.undo(), true);
        due("again", x.person(0, 2) * 10 + x.person(0, 1), 1);
        due("redo", x.redo(), true);
        due("redo", x.redo(), true);
        due("all", x.about(4) * 100 + x.person(0, 2) * 10 + x.person(0, 1), 221);
    }

    // (till another ACT)
    private void tillAnotherAct() {
        List<Check.Call> sorts = List.of(x -> x.aim(2, 1), x -> x.aim(2, -1), x -> x.stand(0, 2), x -> x.stand(0, 0), x -> x.hours(0), x -> x.hours(1),
            x -> x.offset(0, 1), x -> x.clear());
        for (int i = 0; i < sorts.size(); i++) {
            WaitingDebts x = started();
            x.undo();
            x.undo();
            due("to be redone ahead of ACT " + i, acts(x), 102);
            sorts.get(i).on(x);
            due("to be redone behind ACT " + i, acts(x), 200);
            due("redo of none", x.redo(), false);
        }
    }

    private static WaitingDebts withRedo() {
        WaitingDebts x = started();
        x.step(0, 0, 1);
        x.image(0);
        x.undo();
        return x;
    }

    private void otherCallsAreNoActs() {
        List<Check.Call> calls = List.of(x -> x.feed(1, 2, 3, 4, 5), x -> x.end(0), x -> Check.town(x, "day 1;"), x -> x.fault(0), x -> x.person(0, 0),
            x -> x.owed(0, 1), x -> x.sum(0, true), x -> x.wet(0, 0), x -> x.pays(0), x -> x.will(0, 1, 9), x -> x.when(0, 1), x -> x.throng(1, 9, 0),
            x -> x.meeting(0, 1, 9), x -> x.help(0, 1, 0), x -> x.plan(0), x -> x.rings(), x -> x.ring(), x -> x.hide(1, 9, 0), x -> x.word(0, 1, 9),
            x -> x.lies(0), x -> x.step(0, 0, 0), x -> x.untell(0) ? 1 : 0, x -> x.later(1), x -> x.fit(0, 0), x -> x.sham(0), x -> x.ask(0, 0, 0),
            x -> x.image(1), x -> x.about(5));
        for (int i = 0; i < calls.size(); i++) {
            WaitingDebts x = withRedo();
            calls.get(i).on(x);
            due("ACTS behind call " + i, acts(x), 201);
            due("redo behind call " + i, x.redo(), true);
            check.due("all as it was redone, behind call " + i, Shown.firstUnlike(moves(x), moves(started())), Shown.NOTHING_UNLIKE);
        }
        WaitingDebts x = withRedo();
        due("back", x.back(0), 3);
        due("no ACTS are kept behind back", acts(x), 0);
        WaitingDebts y = withRedo();
        due("town", Check.town(y, STREET), 3);
        due("no ACTS are kept behind town", acts(y), 0);
    }

    private void refusedCallsAreNoActs() {
        List<Check.Call> calls = List.of(x -> x.aim(0, 0), x -> x.aim(0, 3), x -> x.aim(3, 0), x -> x.stand(0, 3), x -> x.stand(3, 0), x -> x.stand(0, -1),
            x -> x.hours(-1), x -> x.hours(61), x -> x.offset(0, 0), x -> x.offset(0, 2), x -> x.offset(2, 1), x -> x.offset(0, 3), x -> x.back(1), x -> x.back(3));
        for (int i = 0; i < calls.size(); i++) {
            WaitingDebts x = withRedo();
            due("refused call " + i, calls.get(i).on(x) < 0, true);
            due("ACTS behind refused call " + i, acts(x), 201);
            due("redo behind refused call " + i, x.redo(), true);
        }
        WaitingDebts x = Check.made("person a at 1 open 0 to 1;person b at 1 open 0 to 1;debt a to b 5;");
        x.hours(1);
        x.undo();
        due("clear without a RING", x.clear(), -1);
        due("is no ACT", acts(x), 1);
    }

    // STEPS, the TIME, the TAPE, BOXES, what lies there are no part of an ACT
    private void whatIsNotUndone() {
        WaitingDebts x = Check.made(STREET);
        x.hours(3);
        x.later(4);
        x.step(0, 0, 1);
        x.feed(0, 0, 0, 0, 0);
        x.ring();
        x.image(2);
        x.undo();
        due("the TIME", x.about(8), 4);
        due("STEPS", x.about(7), 1);
        due("the TAPE", x.about(9), 20);
        due("what lies there", x.about(12), 2);
        x.untell(0);
        x.redo();
        due("a STEP stays UNTOLD", x.untell(0), false);
        x.undo();
        due("the BOX", x.back(2), 3);
    }

    private void hoursOfUndoneActsCountNoMore() {
        WaitingDebts x = Check.made(STREET);
        for (int i = 0; i < 33; i++) {
            x.hours(60);
        }
        due("HOURS", x.hours(20), 2000);
        due("none more", x.hours(1), -1);
        x.undo();
        due("behind undo", x.hours(20), 2000);
        x.undo();
        x.undo();
        due("behind undo of two", x.hours(60), 1980);
        due("too many", x.hours(21), -1);
        due("as many as can be", x.hours(20), 2000);
    }
}
