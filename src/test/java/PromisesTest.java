/** Each promise of the document by its number, with answers worked out by hand. */
public final class PromisesTest {
    private static final int MIN = Integer.MIN_VALUE;
    private static final int MAX = Integer.MAX_VALUE;
    private static final String PEOPLE = "day 6;person a at 0 open 0 to 6 coin 10;person b at 2 open 1 to 4 chairs 1;"
        + "person c at 5 open 0 to 6 rest 2 price 4;";
    private static final String STREET = PEOPLE + "debt a to b 100;debt a to c 30;debt b to a 40;debt c to b 20;"
        + "law 20+seat*10+met*25-proxy*5+wet*3;interest owed/20;rain hour=3;";

    private final Check check = new Check("PromisesTest");

    public static void main(String[] args) {
        PromisesTest test = new PromisesTest();
        test.newObject();
        test.feedAndEnd();
        test.townAndFault();
        test.person();
        test.owedSumWet();
        test.pays();
        test.aimAndStand();
        test.hours();
        test.hoursByLaw();
        test.hoursByInterest();
        test.proxies();
        test.offsetAndClear();
        test.undoAndRedo();
        test.willAndWhen();
        test.throng();
        test.meeting();
        test.help();
        test.plan();
        test.rings();
        test.hide();
        test.word();
        test.wordByClockAndCoins();
        test.lies();
        test.steps();
        test.later();
        test.fitShamAsk();
        test.images();
        test.about();
        test.check.end();
    }

    private void due(String call, int got, int want) {
        check.due(call, got, want);
    }

    private void due(String call, boolean got, boolean want) {
        check.due(call, got, want);
    }

    private void newObject() {
        WaitingDebts x = new WaitingDebts();
        int[] about = {0, 10, 0, 0, 0, 0, 0, 0, 0, 0, 0, 0, 0, 0};
        for (int i = 0; i < about.length; i++) {
            due("1: about(" + i + ")", x.about(i), about[i]);
        }
        due("1: person", x.person(0, 0), -2);
        due("1: owed", x.owed(0, 1), -1);
        due("1: aim", x.aim(0, -1), -2);
        due("1: wet", x.wet(0, 9), 0);
        due("1: wet", x.wet(0, 10), -1);
        due("1: hours", x.hours(25), 25);
        due("1: DATE", x.about(2), 2);
        due("1: HOUR", x.about(3), 5);
        due("1: undo", x.undo(), true);
        due("1: HOURS", x.about(4), 0);
        due("1: rings", x.rings(), 0);
        due("1: sham", x.sham(0), 0);
        due("1: fit", x.fit(0, 0), -1);
        due("1: image", x.image(2), 0);
        due("1: back", x.back(2), 0);
        due("1: back of an empty BOX", x.back(1), -1);
    }

    private void feedAndEnd() {
        WaitingDebts x = new WaitingDebts();
        due("2: feed", x.feed('d' << 24 | 'a' << 16 | 'y' << 8 | '2', '4' << 24 | ';' << 16, 0, 0, 0), 20);
        due("3: end", x.end(21), -1);
        due("3: end", x.end(-1), -1);
        due("3: end", x.end(MIN), -1);
        due("3: end", x.end(MAX), -1);
        due("3: end", x.end(6), 6);
        due("3: end", x.end(7), -1);
        due("2: town", x.town(), 0);
        due("2: DAY", x.about(1), 24);
        due("4: the TAPE is empty", x.about(9), 0);
        for (int i = 1; i <= 80; i++) {
            due("2: feed", x.feed(-1, MIN, MAX, 0, 1), 20 * i);
        }
        due("2: feed of too many", x.feed(0, 0, 0, 0, 0), -1);
        due("2: nothing came", x.about(9), 1600);
        due("3: end", x.end(1581), 1581);
        due("2: feed of too many", x.feed(0, 0, 0, 0, 0), -1);
        due("3: end", x.end(1580), 1580);
        due("2: feed", x.feed(0, 0, 0, 0, 0), 1600);
        due("3: end", x.end(0), 0);
        due("2: bytes come behind", x.feed(32 << 24, 0, 0, 0, 0), 20);
        due("3: end", x.end(1), 1);
        Check.tape(x, "day 7;");
        due("2: town", x.town(), 0);
        due("2: DAY", x.about(1), 7);
    }

    private void townAndFault() {
        WaitingDebts x = new WaitingDebts();
        due("5: fault", x.fault(0), 0);
        due("5: place", x.fault(1), -1);
        due("4: town", Check.town(x, STREET), 3);
        x.later(5);
        x.aim(0, 1);
        x.hours(4);
        x.ring();
        x.image(0);
        x.step(0, 0, 0);
        due("4: a FAULT", Check.town(x, "day 3;day"), -1);
        due("5: fault", x.fault(0), 2);
        due("5: place", x.fault(1), 6);
        due("5: another what", x.fault(2), -1);
        due("5: another what", x.fault(-1), -1);
        int[] stays = {3, 6, 0, 4, 4, 2, 0, 1, 5, 0, 13, 5, 2, 4};
        for (int i = 0; i < stays.length; i++) {
            due("4: all stays: about(" + i + ")", x.about(i), stays[i]);
        }
        due("4: all stays: owed", x.owed(0, 1), 37);
        due("4: all stays: person", x.person(0, 0), 2);
        due("4: all stays: BOX", x.back(0), 4);
        x.aim(0, 2);
        x.undo();
        due("4: town", Check.town(x, STREET), 3);
        due("5: no fault", x.fault(0), 0);
        due("5: no place", x.fault(1), -1);
        int[] anew = {3, 6, 0, 0, 0, 0, 0, 0, 5, 0, 13, 5, 0, 4};
        for (int i = 0; i < anew.length; i++) {
            due("4: as told: about(" + i + ")", x.about(i), anew[i]);
        }
        due("4: as told: owed", x.owed(0, 1), 100);
        due("4: as told: place", x.person(0, 0), 0);
        due("4: as told: AIM", x.person(0, 1), -1);
        due("4: BOXES are empty", x.back(0), -1);
        due("4: no ACTS", x.undo(), false);
        due("4: no ACTS", x.redo(), false);
        due("4: an empty TAPE", x.town(), 0);
        due("4: an empty TOWN", x.about(1), 10);
        due("4: nobody", x.about(13), 0);
    }

    private void person() {
        WaitingDebts x = Check.made(STREET);
        int[][] want = {{0, -1, 0, 10, 0, 0, 6, 0, 0, 0}, {2, -1, 1, 0, 2, 1, 4, 1, 0, 0}, {5, -1, 2, 0, 5, 0, 6, 0, 2, 4}};
        for (int p = 0; p < 3; p++) {
            for (int what = 0; what < 10; what++) {
                due("6: person(" + p + ", " + what + ")", x.person(p, what), want[p][what]);
            }
        }
        due("6: another what", x.person(0, 10), -2);
        due("6: another what", x.person(0, -1), -2);
        due("6: nobody", x.person(3, 0), -2);
        due("6: nobody", x.person(-1, 0), -2);
        due("6: nobody", x.person(MAX, MAX), -2);
        x.aim(2, 0);
        x.stand(2, 1);
        x.hours(1);
        due("6: place", x.person(2, 0), 4);
        due("6: AIM", x.person(2, 1), 0);
        due("6: for whom", x.person(2, 2), 1);
    }

    private void owedSumWet() {
        WaitingDebts x = Check.made(STREET);
        due("7: owed", x.owed(0, 1), 100);
        due("7: owed", x.owed(1, 0), 40);
        due("7: owed", x.owed(1, 2), 0);
        due("7: oneself", x.owed(1, 1), -1);
        due("7: nobody", x.owed(0, 3), -1);
        due("7: nobody", x.owed(-1, 0), -1);
        due("8: owes", x.sum(0, false), 130);
        due("8: is owed", x.sum(0, true), 40);
        due("8: is owed", x.sum(1, true), 120);
        due("8: owes", x.sum(2, false), 20);
        due("8: nobody", x.sum(3, true), -1);
        due("8: nobody", x.sum(-1, false), -1);
        due("9: wet", x.wet(0, 3), 1);
        due("9: wet", x.wet(999, 3), 1);
        due("9: dry", x.wet(999, 5), 0);
        due("9: no HOUR", x.wet(0, 6), -1);
        due("9: no HOUR", x.wet(0, -1), -1);
        due("9: no DATE", x.wet(1000, 3), -1);
        due("9: no DATE", x.wet(-1, 3), -1);
        WaitingDebts y = Check.made("day 5;rain date%3-1;");
        due("9: wet by below 0", y.wet(0, 0), 1);
        due("9: dry", y.wet(1, 4), 0);
        due("9: wet", y.wet(2, 4), 1);
    }

    private void pays() {
        WaitingDebts x = Check.made(STREET);
        x.aim(0, 1);
        due("10: goes", x.pays(0), 0);
        x.hours(2);
        due("10: waits on a chair", x.pays(0), 30);
        due("10: no AIM", x.pays(1), 0);
        x.hours(1);
        due("10: in rain", x.pays(0), 33);
        due("10: nothing is done", x.owed(0, 1), 70);
        x.hours(1);
        due("10: shut", x.pays(0), 0);
        due("10: nobody", x.pays(3), -1);
        due("10: nobody", x.pays(-1), -1);
        WaitingDebts y = Check.made("person a at 1 open 0 to 9;person b at 1 open 0 to 9 coin 9;debt b to a 70;");
        y.aim(1, 0);
        due("10: no law", y.pays(1), 60);
        y.hours(1);
        due("10: no more than owed", y.pays(1), 10);
        due("10: no step, no money for another", y.stand(1, 0), 1);
        due("10: for the AIM himself", y.pays(1), 0);
    }

    private void aimAndStand() {
        WaitingDebts x = Check.made(STREET);
        due("11: aim", x.aim(0, 1), -1);
        due("11: aim", x.aim(0, 2), 1);
        due("11: the same", x.aim(0, 2), 2);
        due("11: none", x.aim(0, -1), 2);
        due("11: none again", x.aim(0, -1), -1);
        due("11: ACTS", x.about(5), 5);
        due("11: himself", x.aim(0, 0), -2);
        due("11: nobody", x.aim(0, 3), -2);
        due("11: nobody", x.aim(3, 0), -2);
        due("11: nobody", x.aim(-1, 0), -2);
        due("11: nobody", x.aim(0, -2), -2);
        due("11: nobody", x.aim(-1, -1), -2);
        due("11: nothing was done", x.about(5), 5);
        due("12: stand", x.stand(2, 0), 2);
        due("12: stand", x.stand(2, 1), 0);
        due("12: for himself", x.stand(2, 2), 1);
        due("12: nobody", x.stand(2, 3), -1);
        due("12: nobody", x.stand(2, -1), -1);
        due("12: nobody", x.stand(3, 2), -1);
        due("12: ACTS", x.about(5), 8);
        due("12: for himself", x.person(2, 2), 2);
    }

    private void hours() {
        WaitingDebts x = Check.made(STREET);
        x.aim(0, 1);
        x.aim(2, 0);
        due("13: hours", x.hours(0), 0);
        due("13: 0 HOURS are an ACT, too", x.about(5), 3);
        due("13: hours", x.hours(3), 3);
        due("13: waited", x.owed(0, 1), 70);
        due("13: went", x.person(2, 0), 2);
        due("13: hours", x.hours(1), 4);
        due("13: waited", x.owed(0, 1), 37);
        due("13: went", x.person(2, 0), 1);
        due("13: hours", x.hours(1), 5);
        due("13: rests, goes home", x.person(2, 0), 2);
        due("13: stays there", x.person(0, 0), 2);
        due("13: shut", x.owed(0, 1), 37);
        due("13: hours", x.hours(1), 6);
        due("13: DUSK", x.person(2, 0), 5);
        due("13: DUSK", x.person(0, 0), 0);
        due("13: AIM stays", x.person(0, 1), 1);
        due("13: interest", x.owed(0, 1), 38);
        due("13: interest", x.owed(0, 2), 31);
        due("13: interest", x.owed(1, 0), 42);
        due("13: interest", x.owed(2, 1), 21);
        due("13: no debt, no interest", x.owed(1, 2), 0);
        due("13: DATE", x.about(2), 1);
        due("13: HOUR", x.about(3), 0);
        x.aim(0, -1);
        due("13: hours", x.hours(60), 66);
        due("13: too many", x.hours(61), -1);
        due("13: below 0", x.hours(-1), -1);
        due("13: not a number of HOURS", x.hours(MIN), -1);
        due("13: not a number of HOURS", x.hours(MAX), -1);
        due("13: nothing was done", x.about(4), 66);
        for (int i = 0; i < 32; i++) {
            x.hours(60);
        }
        due("13: HOURS", x.about(4), 1986);
        due("13: too many in all", x.hours(15), -1);
        due("13: all", x.hours(14), 2000);
        due("13: none more", x.hours(1), -1);
        due("13: 0 more", x.hours(0), 2000);
        due("13: DATE", x.about(2), 333);
    }

    private void hoursByLaw() {
        String at = "person a at 3 open 0 to 10;person b at 3 open 0 to 10 chairs 2;person c at 3 open 0 to 10;person d at 3 open 0 to 10;";
        String debts = "debt a to b 500;debt c to b 500;debt d to b 500;debt a to c 500;";
        String[] laws = {"law 300;", "law 0-5;", "law 7+hour*100;", "law seat*10+1;", "law owed/100;", "law proxy*50;"};
        int[][] want = {{240, 240, 240}, {0, 0, 0}, {7, 7, 7}, {11, 11, 1}, {5, 5, 5}, {0, 0, 0}};
        for (int i = 0; i < laws.length; i++) {
            WaitingDebts x = Check.made(at + debts + laws[i]);
            x.aim(0, 1);
            x.aim(2, 1);
            x.aim(3, 1);
            x.hours(1);
            due("13: of a by " + laws[i], 500 - x.owed(0, 1), want[i][0]);
            due("13: of c by " + laws[i], 500 - x.owed(2, 1), want[i][1]);
            due("13: of d by " + laws[i], 500 - x.owed(3, 1), want[i][2]);
            due("13: of a to c by " + laws[i], x.owed(0, 2), 500);
        }
        WaitingDebts y = Check.made(at + debts + "law 100*met+10*seat+1;");
        y.aim(0, 1);
        y.aim(1, 0);
        y.aim(2, 1);
        y.aim(3, 1);
        y.hours(1);
        due("13: who MEETS has no chair", y.owed(0, 1), 400 - 1);
        due("13: and takes none", y.owed(2, 1), 500 - 11);
        due("13: and takes none", y.owed(3, 1), 500 - 11);
        WaitingDebts z = Check.made(at + debts + "law owed/2;");
        z.aim(0, 1);
        z.aim(2, 1);
        z.stand(2, 0);
        z.hours(1);
        due("13: owed as it is by then", z.owed(0, 1), 500 - 240 - 130);
        due("13: not his own", z.owed(2, 1), 500);
        WaitingDebts w = Check.made("day 3;person a at 0 open 0 to 3;person b at 0 open 0 to 3;debt a to b 500;law date*100+hour*10+wet;rain hour=date;");
        w.aim(0, 1);
        int[] left = {499, 489, 469, 369, 258, 138, 0};
        for (int i = 0; i < left.length; i++) {
            w.hours(1);
            due("13: by DATE, HOUR and rain", w.owed(0, 1), left[i]);
        }
    }

    private void hoursByInterest() {
        String two = "day 2;person a at 0 open 0 to 2;person b at 0 open 0 to 2;debt a to b 1000;debt b to a 3;";
        String[] interests = {"", "interest 0-5;", "interest owed;", "interest 9999*9999*20;", "interest 9999*9999*30;", "interest 10+date+hour*9+wet*9;rain 1;"};
        int[][] want = {{1000, 1000}, {1000, 1000}, {2000, 4000}, {9999, 9999}, {1000, 1000}, {1010, 1021}};
        for (int i = 0; i < interests.length; i++) {
            WaitingDebts x = Check.made(two + interests[i]);
            x.hours(1);
            due("13: ahead of DUSK by " + interests[i], x.owed(0, 1), 1000);
            x.hours(1);
            due("13: behind DUSK by " + interests[i], x.owed(0, 1), want[i][0]);
            x.hours(2);
            due("13: behind another DUSK by " + interests[i], x.owed(0, 1), want[i][1]);
        }
        WaitingDebts y = Check.made(two + "interest 5;");
        y.aim(1, 0);
        y.hours(2);
        due("13: what is paid bears nothing", y.owed(1, 0), 0);
    }

    private void proxies() {
        WaitingDebts x = Check.made(STREET);
        x.aim(0, 1);
        x.aim(2, 1);
        x.stand(2, 0);
        x.hours(3);
        due("13: proxy goes yet", x.person(2, 3), 0);
        due("10: the first one's seat", x.pays(0), 33);
        due("10: a proxy, no seat", x.pays(2), 18);
        x.hours(1);
        due("13: both paid", x.owed(0, 1), 19);
        due("13: the proxy's own debt", x.owed(2, 1), 20);
        due("13: coin of him", x.person(0, 3), 6);
        due("13: coin of the proxy", x.person(2, 3), 4);
        String both = "person a at 0 open 0 to 9 coin 5;person b at 0 open 0 to 9;person c at 0 open 0 to 9 price 3;debt a to b 900;debt c to b 900;";
        WaitingDebts y = Check.made(both);
        y.aim(2, 1);
        y.stand(2, 0);
        y.hours(1);
        due("13: price", y.person(0, 3), 2);
        due("13: paid", y.owed(0, 1), 840);
        y.hours(1);
        due("13: not so much coin", y.person(0, 3), 2);
        due("13: nothing is paid", y.owed(0, 1), 840);
        WaitingDebts z = Check.made(both + "law proxy*0;");
        z.aim(2, 1);
        z.stand(2, 0);
        z.hours(1);
        due("13: nothing paid, no price", z.person(0, 3), 5);
        WaitingDebts w = Check.made(both);
        w.aim(2, 1);
        w.stand(2, 1);
        w.hours(3);
        due("13: there for the AIM himself", w.owed(2, 1) + w.owed(0, 1), 1800);
        due("13: there for the AIM himself", w.person(1, 3) + w.person(2, 3), 0);
    }

    private void offsetAndClear() {
        WaitingDebts x = Check.made(STREET);
        due("14: offset", x.offset(1, 0), 40);
        due("14: less", x.owed(0, 1), 60);
        due("14: less", x.owed(1, 0), 0);
        due("14: 0", x.offset(0, 1), -1);
        due("14: 0", x.offset(0, 2), -1);
        due("14: oneself", x.offset(0, 0), -1);
        due("14: nobody", x.offset(0, 3), -1);
        due("14: nobody", x.offset(-1, 0), -1);
        due("14: ACTS", x.about(5), 1);
        due("14: undo", x.undo(), true);
        due("14: undone", x.owed(1, 0), 40);
        due("15: clear", x.clear(), 80);
        due("15: less", x.owed(0, 1), 60);
        due("15: less", x.owed(1, 0), 0);
        due("15: not in it", x.owed(2, 1), 20);
        due("15: ACTS", x.about(5), 1);
        due("15: none is left", x.clear(), -1);
        due("15: nothing was done", x.about(5), 1);
        due("15: nothing lies there", x.about(12), 0);
        WaitingDebts y = Check.made(PEOPLE + "debt a to b 10;debt b to c 12;debt c to a 15;debt b to a 14;");
        due("15: clear", y.clear(), 30);
        due("15: less", y.owed(0, 1), 0);
        due("15: less", y.owed(1, 2), 2);
        due("15: less", y.owed(2, 0), 5);
        due("15: not in it", y.owed(1, 0), 14);
    }

    private void undoAndRedo() {
        WaitingDebts x = Check.made(STREET);
        due("16: none", x.undo(), false);
        due("17: none", x.redo(), false);
        x.aim(0, 1);
        x.hours(4);
        x.stand(2, 1);
        x.ring();
        x.step(0, 0, 1);
        due("16: undo", x.undo(), true);
        due("16: stand is undone", x.person(2, 2), 2);
        due("16: undo", x.undo(), true);
        due("16: hours are undone", x.owed(0, 1), 100);
        due("16: clock", x.about(4) + x.about(3), 0);
        due("16: place", x.person(0, 0), 0);
        due("16: AIM is yet", x.person(0, 1), 1);
        due("16: what lies there stays", x.about(12), 2);
        due("16: STEPS stay", x.about(7), 1);
        due("16: about", x.about(5) * 10 + x.about(6), 12);
        due("17: redo", x.redo(), true);
        due("17: hours again", x.owed(0, 1), 37);
        due("17: about", x.about(5) * 10 + x.about(6), 21);
        due("11: another ACT", x.aim(1, 2), -1);
        due("17: none behind another ACT", x.redo(), false);
        due("17: about", x.about(5) * 10 + x.about(6), 30);
        WaitingDebts y = Check.made(STREET);
        for (int i = 0; i < 45; i++) {
            y.hours(1);
        }
        due("16: 40 are kept", y.about(5), 40);
        for (int i = 0; i < 40; i++) {
            due("16: undo", y.undo(), true);
        }
        due("16: the oldest went", y.undo(), false);
        due("16: HOURS", y.about(4), 5);
        due("17: about", y.about(6), 40);
        for (int i = 0; i < 40; i++) {
            due("17: redo", y.redo(), true);
        }
        due("17: all", y.redo(), false);
        due("17: HOURS", y.about(4), 45);
        y.undo();
        due("11: what fails is no ACT", y.aim(0, 0), -2);
        due("17: redo", y.redo(), true);
    }

    private void willAndWhen() {
        WaitingDebts x = Check.made(STREET);
        due("19: never", x.when(0, 1), -1);
        due("19: nothing is owed", x.when(1, 2), 0);
        x.aim(0, 1);
        int[] left = {100, 100, 100, 70, 37, 37, 38, 38, 38, 8, 0, 0};
        for (int n = 0; n < left.length; n++) {
            due("18: will " + n, x.will(0, 1, n), left[n]);
        }
        due("18: of others", x.will(2, 1, 6), 21);
        due("18: nothing is done", x.about(4), 0);
        due("18: far", x.will(0, 1, 200), 0);
        due("18: too far", x.will(0, 1, 201), -1);
        due("18: below", x.will(0, 1, -1), -1);
        due("18: oneself", x.will(1, 1, 5), -1);
        due("18: nobody", x.will(3, 1, 5), -1);
        due("18: nobody", x.will(1, -1, 5), -1);
        due("19: when", x.when(0, 1), 10);
        due("19: never", x.when(2, 1), -1);
        due("19: oneself", x.when(2, 2), -2);
        due("19: nobody", x.when(0, 3), -2);
        due("19: nobody", x.when(-1, 0), -2);
        WaitingDebts y = Check.made("day 2;person a at 0 open 1 to 2;person b at 0 open 1 to 2;debt a to b 200;law 2;");
        y.aim(0, 1);
        due("19: at 200", y.when(0, 1), 200);
        due("18: at 198", y.will(0, 1, 199), 2);
        y.hours(0);
        WaitingDebts z = Check.made("day 2;person a at 0 open 1 to 2;person b at 0 open 1 to 2;debt a to b 201;law 2;");
        z.aim(0, 1);
        due("19: beyond 200", z.when(0, 1), -1);
        WaitingDebts w = Check.made("day 2;person a at 0 open 0 to 1;person b at 0 open 0 to 1;debt a to b 202;law 2;");
        w.aim(0, 1);
        due("19: at 201", w.when(0, 1), -1);
        due("22: at 201", w.help(0, 1, 0), -1);
    }

    private void throng() {
        WaitingDebts x = Check.made(STREET);
        due("20: nobody waits", x.throng(1, 9, 0), 0);
        due("20: nobody waits", x.throng(1, 9, 1), -1);
        x.aim(0, 1);
        x.aim(2, 1);
        due("20: in 2 HOURS", x.throng(1, 2, 0), 0);
        due("20: in 3 HOURS", x.throng(1, 3, 0), 1);
        due("20: the HOUR", x.throng(1, 3, 1), 3);
        due("20: in 4 HOURS", x.throng(1, 4, 0), 2);
        due("20: the first HOUR", x.throng(1, 200, 1), 4);
        due("20: another DOOR", x.throng(0, 200, 0), 0);
        due("20: too many HOURS", x.throng(1, 201, 0), -2);
        due("20: no HOUR", x.throng(1, 0, 0), -2);
        due("20: another what", x.throng(1, 4, 2), -2);
        due("20: another what", x.throng(1, 4, -1), -2);
        due("20: nobody", x.throng(3, 4, 0), -2);
        due("20: nobody", x.throng(-1, 4, 0), -2);
        x.aim(1, 0);
        due("20: who MEETS does not count", x.throng(1, 3, 0), 0);
        WaitingDebts y = Check.made("person a at 0 open 0 to 9;person b at 1 open 0 to 9;person c at 1 open 0 to 9;");
        y.aim(0, 1);
        y.aim(1, 2);
        y.aim(2, 1);
        due("20: a DOOR, not its place", y.throng(2, 5, 0), 0);
        due("20: a DOOR, not its place", y.throng(1, 5, 0), 1);
    }

    private void meeting() {
        WaitingDebts x = Check.made(STREET);
        x.aim(0, 1);
        due("21: not one another", x.meeting(0, 1, 200), -1);
        x.aim(1, 0);
        due("21: not yet", x.meeting(0, 1, 1), -1);
        due("21: meeting", x.meeting(0, 1, 2), 2);
        due("21: meeting", x.meeting(1, 0, 200), 2);
        due("21: not they", x.meeting(0, 2, 200), -1);
        due("21: no HOUR", x.meeting(0, 1, 0), -2);
        due("21: too many HOURS", x.meeting(0, 1, 201), -2);
        due("21: oneself", x.meeting(0, 0, 5), -2);
        due("21: nobody", x.meeting(0, 3, 5), -2);
        due("21: nobody", x.meeting(-1, 0, 5), -2);
        x.hours(2);
        due("21: both pay", x.owed(0, 1), 55);
        due("21: both pay", x.owed(1, 0), 0);
        due("21: they stay", x.person(0, 0) * 10 + x.person(1, 0), 11);
        due("21: they stay", x.meeting(0, 1, 1), 1);
        WaitingDebts y = Check.made("day 9;person a at 0 open 0 to 1;person b at 3 open 0 to 1;");
        y.aim(0, 1);
        y.aim(1, 0);
        due("21: they go past one another", y.meeting(0, 1, 200), -1);
        WaitingDebts z = Check.made("day 6;person a at 0 open 0 to 1;person b at 4 open 0 to 1 rest 4;");
        z.aim(0, 1);
        z.aim(1, 0);
        due("21: one rests", z.meeting(0, 1, 200), -1);
    }

    private void help() {
        WaitingDebts x = Check.made(STREET);
        due("22: himself", x.help(0, 1, 0), 10);
        due("22: himself", x.help(0, 1, 1), 0);
        due("22: another one", x.help(2, 1, 0), 3);
        due("22: another one", x.help(2, 1, 1), 0);
        due("22: nothing is owed", x.help(1, 2, 0), 0);
        due("22: the first", x.help(1, 2, 1), 0);
        due("22: not the other one", x.help(2, 0, 1), 1);
        due("22: nothing is done", x.person(0, 1) + x.person(2, 2), 1);
        due("22: oneself", x.help(1, 1, 0), -2);
        due("22: nobody", x.help(3, 1, 0), -2);
        due("22: nobody", x.help(1, -1, 0), -2);
        due("22: another what", x.help(0, 1, 2), -2);
        due("22: another what", x.help(0, 1, -1), -2);
        WaitingDebts y = Check.made(PEOPLE + "debt a to b 5;law 0;");
        due("22: none", y.help(0, 1, 0), -1);
        due("22: none", y.help(0, 1, 1), -1);
    }

    private void plan() {
        WaitingDebts x = Check.made(STREET);
        x.aim(1, 0);
        x.stand(0, 2);
        due("23: plan", x.plan(0), 22);
        due("23: order", x.lies(0), 2);
        due("23: order", x.lies(1), 1);
        due("23: order", x.about(12), 2);
        due("23: nothing is done", x.person(0, 2), 2);
        due("23: plan", x.plan(2), 4);
        due("23: order", x.lies(0), 1);
        due("23: order", x.about(12), 1);
        due("23: nobody", x.plan(3), -1);
        due("23: nothing lies there", x.about(12), 0);
        due("23: nobody", x.plan(-1), -1);
        WaitingDebts y = Check.made("person a at 3 open 0 to 9;person b at 3 open 0 to 9;person c at 3 open 0 to 9;debt a to b 5;debt a to c 5;debt b to c 9999;");
        y.ring();
        due("23: owes nothing", y.plan(2), 0);
        due("23: no order", y.about(12), 0);
        due("23: like ones", y.plan(0), 2);
        due("23: the first", y.lies(0) * 10 + y.lies(1), 12);
        due("23: in 185 HOURS", y.plan(1), 185);
        WaitingDebts z = Check.made("day 2;person a at 0 open 1 to 2;person b at 0 open 1 to 2;debt a to b 300;law 2;");
        due("23: at 300", z.plan(0), 300);
        WaitingDebts w = Check.made("day 2;person a at 0 open 1 to 2;person b at 0 open 1 to 2;debt a to b 301;debt b to a 2;law 2;");
        w.ring();
        due("23: beyond 300", w.plan(0), -1);
        WaitingDebts v = Check.made("day 2;person a at 0 open 0 to 1;person b at 0 open 0 to 1;debt a to b 302;law 2;");
        due("23: at 301", v.plan(0), -1);
        due("23: nothing lies there", w.about(12), 0);
    }

    private void rings() {
        WaitingDebts x = Check.made(STREET);
        due("24: rings", x.rings(), 2);
        due("25: ring", x.ring(), 80);
        due("25: lies there", x.lies(0) * 10 + x.lies(1), 1);
        due("25: lies there", x.about(12), 2);
        x.clear();
        due("24: none", x.rings(), 0);
        due("25: none", x.ring(), 0);
        due("25: nothing lies there", x.about(12), 0);
        WaitingDebts y = Check.made(PEOPLE + "debt a to b 6;debt b to a 6;debt b to c 4;debt c to a 4;debt a to c 6;debt c to b 4;");
        due("24: rings", y.rings(), 5);
        due("25: of like ones the first row", y.ring(), 12);
        due("25: lies there", y.about(12), 2);
        due("25: lies there", y.lies(0) * 10 + y.lies(1), 1);
        WaitingDebts z = Check.made(PEOPLE + "debt c to b 4;debt b to c 4;debt a to c 3;debt c to a 3;debt b to a 3;debt a to b 3;");
        due("25: three free more than two", z.ring(), 9);
        due("25: the first row of three", z.lies(0) * 100 + z.lies(1) * 10 + z.lies(2), 12);
        StringBuilder all = new StringBuilder();
        for (int i = 0; i < 6; i++) {
            all.append("person ").append((char) ('a' + i)).append(" at 1 open 0 to 1;");
        }
        for (int i = 0; i < 20; i++) {
            all.append("debt ").append((char) ('a' + i / 4)).append(" to ").append((char) ('a' + (i % 4 + i / 4 + 1) % 5)).append(" 7;");
        }
        WaitingDebts w = Check.made(all.toString());
        due("24: each owes each of five", w.rings(), 10 + 20 + 30 + 24);
        due("25: all five", w.ring(), 35);
        due("25: the last number", w.lies(4), 4);
    }

    private void hide() {
        WaitingDebts x = Check.made(STREET);
        x.aim(0, 1);
        due("26: as it is", x.hide(1, 2, 1), 1);
        due("26: hide", x.hide(1, 6, 0), 94);
        due("26: hide", x.hide(1, 6, 1), 0);
        due("26: in 3 HOURS", x.hide(1, 3, 0), 120);
        due("26: in 3 HOURS", x.hide(1, 3, 1), 3);
        due("26: nothing is done", x.person(1, 5) * 10 + x.person(1, 6), 14);
        due("26: all DAY", x.hide(0, 6, 1), 0);
        due("26: all DAY", x.hide(0, 6, 0), 42);
        due("26: no HOUR", x.hide(1, 0, 0), -2);
        due("26: too many HOURS", x.hide(1, 61, 0), -2);
        due("26: many HOURS", x.hide(2, 60, 1), 0);
        due("26: another what", x.hide(1, 6, 2), -2);
        due("26: another what", x.hide(1, 6, -1), -2);
        due("26: nobody", x.hide(3, 6, 0), -2);
        due("26: nobody", x.hide(-1, 6, 0), -2);
        due("26: nothing is done", x.will(0, 1, 4), 37);
    }

    private void word() {
        WaitingDebts x = Check.made(STREET);
        due("27: in no way", x.word(0, 1, 4), 0);
        due("27: nothing lies there", x.about(12), 0);
        x.aim(0, 1);
        due("27: word", x.word(0, 1, 4), 61 + 71 + 60);
        due("27: number", x.lies(0), 0);
        due("27: told", x.lies(1), 39);
        due("27: two numbers", x.about(12), 2);
        due("27: nothing is done", x.will(0, 1, 4), 37);
        due("27: nothing is owed", x.word(1, 2, 1), 5 * 99);
        due("27: the first other one", x.lies(0) * 100 + x.lies(1), 0);
        due("27: no HOUR", x.word(0, 1, 0), -1);
        due("27: nothing lies there", x.about(12), 0);
        due("27: too many HOURS", x.word(0, 1, 61), -1);
        due("27: oneself", x.word(0, 0, 4), -1);
        due("27: nobody", x.word(0, 3, 4), -1);
        due("27: nobody", x.word(-1, 0, 4), -1);
        WaitingDebts y = Check.made("person a at 0 open 0 to 9;person b at 0 open 0 to 9;debt a to b 3;law 0+240*0-1000*0;");
        y.aim(0, 1);
        due("27: as told is not otherwise", y.word(0, 1, 1), 97 + 0 + 99 + 0 + 0);
        due("27: the first", y.lies(0) * 100 + y.lies(1), 3);
        WaitingDebts z = Check.made("person a at 0 open 0 to 9;person b at 0 open 0 to 9;debt a to b 3;law 200;interest 5*9;rain 7;");
        z.aim(0, 1);
        due("27: numbers of the law alone; one above 99", z.word(0, 1, 1), 97);
        due("27: many HOURS", z.word(0, 1, 60), 99);
        WaitingDebts w = Check.made("person a at 0 open 0 to 9;person b at 0 open 0 to 9;debt a to b 3;rain 7;");
        w.aim(0, 1);
        due("27: no law, no number", w.word(0, 1, 1), 0);
    }

    private void wordByClockAndCoins() {
        String two = "day 2;person a at 0 open 0 to 2;person b at 0 open 0 to 2;";
        WaitingDebts x = Check.made(two + "debt a to b 30;law hour*5;");
        x.aim(0, 1);
        due("27: in the HOUR that counts", x.word(0, 1, 1), 0);
        due("27: in the HOUR that counts", x.word(0, 1, 2), 70);
        due("27: the first", x.lies(1), 30);
        due("27: twice", x.word(0, 1, 4), 85);
        WaitingDebts y = Check.made(two + "debt a to b 30;law 5;interest 10;");
        y.aim(0, 1);
        due("27: interest ahead of it", y.word(0, 1, 2), 85);
        due("27: interest comes too", y.word(0, 1, 3), 86);
        due("27: the first", y.lies(1), 14);
        // d waits for a at b's DOOR for a price; a earns the coin for it by waiting for c at b's DOOR first.
        String four = "day 4;person a at 0 open 0 to 4 price 3;person b at 0 open 0 to 4;person c at 0 open 0 to 4 coin 3;person d at 0 open 0 to 4 price 3;";
        WaitingDebts z = Check.made(four + "debt a to b 20;debt c to b 9;law 10;");
        z.aim(3, 1);
        z.stand(3, 0);
        due("27: no coin", z.word(0, 1, 4), 0);
        z.aim(0, 1);
        z.stand(0, 2);
        due("27: coin of another debt", z.word(0, 1, 1), 80);
        due("27: the first", z.lies(1), 20);
        due("27: coin but once", z.word(0, 1, 4), 80);
    }

    private void lies() {
        WaitingDebts x = Check.made(STREET);
        due("28: nothing", x.lies(0), -1000000);
        x.ring();
        due("28: lies", x.lies(1), 1);
        due("28: none such", x.lies(2), -1000000);
        due("28: none such", x.lies(-1), -1000000);
        due("28: none such", x.lies(MIN), -1000000);
        due("28: none such", x.lies(MAX), -1000000);
        due("28: the constants", WaitingDebts.NONE, -1);
        due("28: the constants", WaitingDebts.GAP, -1000000);
    }

    private void steps() {
        WaitingDebts x = Check.made(STREET);
        due("29: step", x.step(0, 0, 0), 0);
        due("29: step", x.step(2, 5, 20), 1);
        due("29: no HOUR", x.step(0, 6, 0), -1);
        due("29: no HOUR", x.step(0, -1, 0), -1);
        due("29: no place", x.step(0, 0, 21), -1);
        due("29: no place", x.step(0, 0, -1), -1);
        due("29: nobody", x.step(3, 0, 0), -1);
        due("29: nobody", x.step(-1, 0, 0), -1);
        due("29: STEPS", x.about(7), 2);
        due("30: none such", x.untell(2), false);
        due("30: none such", x.untell(-1), false);
        due("30: untell", x.untell(1), true);
        due("30: already", x.untell(1), false);
        due("30: STEPS", x.about(7), 2);
        for (int i = 2; i < 30; i++) {
            due("29: step", x.step(0, 0, 0), i);
        }
        due("29: there are 30", x.step(0, 0, 0), -1);
        due("29: STEPS", x.about(7), 30);
        due("29: no ACT", x.about(5), 0);
    }

    private void later() {
        WaitingDebts x = Check.made(STREET);
        due("31: later", x.later(0), 0);
        due("31: later", x.later(1000), 1000);
        due("31: too much", x.later(1001), -1);
        due("31: below 0", x.later(-1), -1);
        due("31: below 0", x.later(MIN), -1);
        due("31: too much", x.later(MAX), -1);
        for (int i = 2; i <= 99; i++) {
            due("31: later", x.later(1000), 1000 * i);
        }
        due("31: later", x.later(999), 99999);
        due("31: above 100,000", x.later(2), -1);
        due("31: the TIME", x.about(8), 99999);
        due("31: later", x.later(1), 100000);
        due("31: above 100,000", x.later(1), -1);
        due("31: the TIME stays", Check.town(x, "") + x.about(8), 100000);
    }

    private void fitShamAsk() {
        WaitingDebts x = Check.made(STREET);
        due("32: all", x.fit(0, 0), 7);
        due("32: nobody", x.fit(3, 0), -1);
        due("32: nobody", x.fit(-1, 0), -1);
        due("34: ask", x.ask(0, 0, 0), 2);
        due("34: ask", x.ask(0, 1, 0), 1);
        due("34: ask", x.ask(2, 0, 0), 3);
        due("34: left", x.ask(2, 1, 0), 1);
        x.later(3);
        x.step(0, 1, 2);
        due("32: as known at 2", x.fit(0, 2), 7);
        due("32: as known at 3", x.fit(0, 3), 6);
        due("32: as known later", x.fit(0, MAX), 6);
        due("32: of another one", x.fit(1, 3), 7);
        due("34: ask", x.ask(0, 0, 3), 2);
        x.later(2);
        x.step(0, 5, 0);
        due("32: no AIM fits", x.fit(0, 5), 0);
        due("33: sham", x.sham(5), 1);
        due("33: not as known at 4", x.sham(4), 0);
        due("34: none fits", x.ask(0, 0, 5), -1);
        due("34: none fits", x.ask(0, 1, 5), -1);
        due("34: at 4", x.ask(0, 1, 4), 1);
        x.later(1);
        x.untell(0);
        due("32: untold", x.fit(0, 6), 1);
        due("32: not untold at 5", x.fit(0, 5), 0);
        due("34: one is left", x.ask(0, 0, 6), 0);
        due("34: one is left", x.ask(0, 1, 6), 1);
        due("33: sham", x.sham(6), 0);
        due("33: nothing is known", x.sham(MIN), 0);
        x.step(2, 4, 2);
        due("32: rests, on his way home", x.fit(2, 6), 1);
        x.step(1, 0, 9);
        due("33: another one", x.sham(6), 2);
        due("34: nobody", x.ask(3, 0, 0), -1);
        due("34: nobody", x.ask(-1, 0, 0), -1);
        due("34: another what", x.ask(0, 2, 0), -1);
        due("34: another what", x.ask(0, -1, 0), -1);
        WaitingDebts y = Check.made("person a at 0 open 0 to 1;person b at 0 open 0 to 1;person c at 1 open 0 to 1;person d at 2 open 0 to 1;");
        due("34: like ones", y.ask(0, 0, 0), 0);
        due("34: two are left", y.ask(0, 1, 0), 2);
        y.step(0, 0, 0);
        y.step(0, 0, 0);
        due("32: none and one at the same place", y.fit(0, 0), 3);
        y.untell(0);
        due("32: told twice", y.fit(0, 0), 3);
        y.untell(1);
        due("32: told and untold at once", y.fit(0, 0), 15);
        y.hours(5);
        y.aim(0, 3);
        due("32: from the beginning on, whatever is", y.fit(0, 0), 15);
    }

    private void images() {
        WaitingDebts x = Check.made(STREET);
        due("35: none such", x.image(3), -1);
        due("35: none such", x.image(-1), -1);
        due("36: none such", x.back(3), -1);
        due("36: none such", x.back(-1), -1);
        due("36: nothing was", x.back(0), -1);
        x.aim(0, 1);
        x.aim(2, 1);
        x.stand(2, 0);
        x.hours(4);
        due("35: image", x.image(0), 4);
        due("35: no ACT", x.about(5), 4);
        x.hours(3);
        due("35: image", x.image(2), 7);
        x.aim(0, -1);
        x.stand(2, 1);
        x.offset(0, 1);
        due("36: nothing was", x.back(1), -1);
        due("36: nothing was done", x.about(5), 8);
        due("36: back", x.back(0), 4);
        due("36: no ACTS", x.about(5) + x.about(6), 0);
        due("36: undo", x.undo(), false);
        due("36: place", x.person(2, 0), 2);
        due("36: AIM", x.person(0, 1), 1);
        due("36: for whom", x.person(2, 2), 0);
        due("36: coin", x.person(2, 3), 4);
        due("36: debt", x.owed(0, 1), 19);
        due("36: debt", x.owed(1, 0), 40);
        due("36: clock", x.about(2) * 100 + x.about(3) * 10 + x.about(4), 44);
        x.hours(1);
        due("36: gone on from", x.person(2, 0), 3);
        due("36: back", x.back(2), 7);
        due("36: clock", x.about(2) * 100 + x.about(3) * 10 + x.about(4), 117);
        due("36: back again", x.back(0), 4);
        due("35: another image", x.image(2), 4);
        due("36: the other one", x.back(2), 4);
    }

    private void about() {
        WaitingDebts x = Check.made(STREET);
        x.aim(0, 1);
        x.hours(8);
        x.aim(1, 2);
        x.undo();
        x.step(0, 1, 1);
        x.later(9);
        x.feed(0, 0, 0, 0, 0);
        x.ring();
        int[] want = {3, 6, 1, 2, 8, 2, 1, 1, 9, 20, 13, 5, 2, 4};
        for (int i = 0; i < want.length; i++) {
            due("37: about(" + i + ")", x.about(i), want[i]);
        }
        due("37: another what", x.about(14), -1);
        due("37: another what", x.about(-1), -1);
        due("37: another what", x.about(MAX), -1);
        x.hours(2);
        due("37: debts of more than 0", x.about(13), 3);
        WaitingDebts y = Check.made("interest (1+owed);law 1*(2+3)*4;rain 6;");
        due("37: units", y.about(10), 9);
        due("37: numbers in the law", y.about(11), 4);
    }
}
