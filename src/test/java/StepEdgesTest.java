/** "Terms" of the document, ==== 4: how many STEPS, when they count as known, which AIMS FIT, what is SHAM, what is to be ASKED. */
public final class StepEdgesTest {
    private static final int MIN = Integer.MIN_VALUE;
    private static final int MAX = Integer.MAX_VALUE;
    private static final String STREET = "day 6;person a at 4 open 0 to 6;person b at 8 open 0 to 6;person c at 0 open 0 to 6 rest 2;";

    private final Check check = new Check("StepEdgesTest");

    public static void main(String[] args) {
        StepEdgesTest test = new StepEdgesTest();
        test.thirtyAtMost();
        test.hoursAndPlaces();
        test.toldAtATime();
        test.untoldAtATime();
        test.untoldAtOnce();
        test.theTimeGoesOn();
        test.fitsBehindAllGoing();
        test.fitsWithRest();
        test.fitsFromTheBeginningMeetingNobody();
        test.noneIsByHisOwnNumber();
        test.shamOfWhom();
        test.askOfLikeHours();
        test.askWhatIsLeft();
        test.askIfNoneFits();
        test.check.end();
    }

    private void due(String what, int got, int want) {
        check.due(what, got, want);
    }

    private void due(String what, boolean got, boolean want) {
        check.due(what, got, want);
    }

    // STEPS, 30 at most
    private void thirtyAtMost() {
        WaitingDebts x = Check.made(STREET);
        for (int i = 0; i < 30; i++) {
            due("STEP " + i, x.step(i % 2, 0, 4 + i % 2 * 4), i);
            due("STEPS", x.about(7), i + 1);
        }
        due("one more", x.step(2, 0, 9), -1);
        due("STEPS yet", x.about(7), 30);
        due("it does not count", x.sham(0), 0);
        due("the last is untold", x.untell(29), true);
        due("there is no more of them", x.untell(30), false);
        due("one that is untold makes no room", x.step(2, 0, 9), -1);
        due("STEPS yet", x.about(7), 30);
        Check.town(x, STREET);
        due("none in another TOWN", x.about(7), 0);
        due("none to be untold", x.untell(0), false);
        due("the first one again", x.step(2, 0, 9), 0);
        due("it counts", x.sham(0), 4);
        due("and is not untold", x.untell(0), true);
    }

    // at a place (0 .. 20) .. of an HOUR of the first DAY
    private void hoursAndPlaces() {
        for (int day : new int[] {2, 10, 24}) {
            WaitingDebts x = Check.made("day " + day + ";person a at 0 open 0 to 1;");
            int[][] good = {{0, 0}, {0, 20}, {day - 1, 0}, {day - 1, 20}};
            for (int i = 0; i < good.length; i++) {
                due("a STEP at the edge", x.step(0, good[i][0], good[i][1]), i);
            }
            int[][] bad = {{-1, 0}, {day, 0}, {day + 1, 0}, {MIN, 0}, {MAX, 0}, {0, -1}, {0, 21}, {0, 22}, {0, MIN}, {0, MAX}, {day, 21}};
            for (int[] row : bad) {
                due("no STEP: HOUR " + row[0] + ", place " + row[1], x.step(0, row[0], row[1]), -1);
            }
            for (int p : new int[] {-1, 1, 6, MIN, MAX}) {
                due("no STEP of nobody", x.step(p, 0, 0), -1);
            }
            due("STEPS", x.about(7), 4);
            x.hours(60);
            due("of the first DAY, whatever HOUR it is", x.step(0, day - 1, 20), 4);
        }
        due("nobody is in an empty TOWN", new WaitingDebts().step(0, 0, 0), -1);
    }

    // As known at k those count that were TOLD at k or before
    private void toldAtATime() {
        WaitingDebts x = Check.made(STREET);
        x.later(5);
        x.step(0, 0, 9);
        due("nothing at 4", x.fit(0, 4), 7);
        due("TOLD at 5", x.fit(0, 5), 0);
        due("known at 6", x.fit(0, 6), 0);
        due("SHAM at 4", x.sham(4), 0);
        due("SHAM at 5", x.sham(5), 1);
        due("ASK at 4", x.ask(0, 1, 4), 1);
        due("ASK at 5", x.ask(0, 1, 5), -1);
        due("long before", x.fit(0, MIN), 7);
        due("below 0", x.fit(0, -1), 7);
        due("long after", x.fit(0, MAX), 0);
        WaitingDebts y = Check.made(STREET);
        y.step(0, 0, 9);
        due("TOLD at 0, known at -1", y.fit(0, -1), 7);
        due("TOLD at 0, known at 0", y.fit(0, 0), 0);
    }

    // not UNTOLD at k or before
    private void untoldAtATime() {
        WaitingDebts x = Check.made(STREET);
        x.later(5);
        x.step(0, 0, 9);
        x.later(3);
        due("untell", x.untell(0), true);
        int[] fits = {7, 0, 0, 0, 7, 7};
        for (int k = 4; k <= 9; k++) {
            due("known at " + k, x.fit(0, k), fits[k - 4]);
            due("SHAM at " + k, x.sham(k), fits[k - 4] == 0 ? 1 : 0);
            due("ASK at " + k, x.ask(0, 1, k), fits[k - 4] == 0 ? -1 : 1);
        }
        x.later(2);
        due("already", x.untell(0), false);
        due("the first time counts", x.fit(0, 8), 7);
        due("known long after", x.fit(0, MAX), 7);
    }

    // UNTOLD at a later one or the same
    private void untoldAtOnce() {
        WaitingDebts x = Check.made(STREET);
        x.later(5);
        x.step(0, 0, 9);
        x.step(0, 0, 9);
        x.untell(0);
        due("the other one counts yet", x.fit(0, 5), 0);
        x.untell(1);
        for (int k = 4; k <= 6; k++) {
            due("TOLD and UNTOLD at 5, known at " + k, x.fit(0, k), 7);
        }
        due("none such", x.untell(2), false);
        due("none such", x.untell(-1), false);
        due("none such", x.untell(MIN), false);
        due("none such", x.untell(MAX), false);
    }

    // a TIME (0 at first, goes on)
    private void theTimeGoesOn() {
        WaitingDebts x = new WaitingDebts();
        due("the TIME at first", x.about(8), 0);
        due("0 later", x.later(0), 0);
        due("-1 later", x.later(-1), -1);
        due("1001 later", x.later(1001), -1);
        due("1 later", x.later(1), 1);
        due("999 later", x.later(999), 1000);
        for (int i = 2; i <= 100; i++) {
            due("1000 later", x.later(1000), 1000 * i);
        }
        due("at 100,000: 1 later", x.later(1), -1);
        due("at 100,000: 1000 later", x.later(1000), -1);
        due("at 100,000: 0 later", x.later(0), 100000);
        due("another TOWN: the TIME stays", Check.town(x, STREET) + x.about(8), 100003);
        x.step(0, 0, 9);
        due("TOLD at 100,000", x.fit(0, 99999) * 10 + x.fit(0, 100000), 70);
    }

    // behind all going (1) of an HOUR
    private void fitsBehindAllGoing() {
        // a is at 4: with AIM b he goes up from 5 in HOUR 0 to 8 in HOUR 3, with AIM c down from 3 to 0.
        int[][] at = {{4, 4, 4, 4, 4, 4}, {5, 6, 7, 8, 8, 8}, {3, 2, 1, 0, 0, 0}};
        for (int hour = 0; hour < 6; hour++) {
            for (int place = 0; place <= 20; place++) {
                int bits = 0;
                for (int aim = 0; aim < 3; aim++) {
                    bits |= at[aim][hour] == place ? 1 << aim : 0;
                }
                WaitingDebts x = Check.made(STREET);
                x.step(0, hour, place);
                due("AIMS that bring him to " + place + " in HOUR " + hour, x.fit(0, 0), bits);
                due("SHAM by " + place + " in HOUR " + hour, x.sham(0), bits == 0 ? 1 : 0);
                due("others", x.fit(1, 0) * 10 + x.fit(2, 0), 77);
            }
        }
    }

    // (his own DOOR, if he RESTS)
    private void fitsWithRest() {
        // c is at 0 with rest 2 of 6 HOURS: up to 4 in HOUR 3, then back.
        int[] up = {1, 2, 3, 4, 3, 2};
        for (int hour = 0; hour < 6; hour++) {
            for (int place = 0; place <= 5; place++) {
                WaitingDebts x = Check.made(STREET);
                x.step(2, hour, place);
                int bits = (place == up[hour] ? 3 : 0) | (place == 0 ? 4 : 0);
                due("AIMS of who rests, at " + place + " in HOUR " + hour, x.fit(2, 0), bits);
            }
        }
    }

    // had from the beginning on, meeting nobody
    private void fitsFromTheBeginningMeetingNobody() {
        WaitingDebts x = Check.made(STREET);
        x.aim(0, 1);
        x.aim(1, 0);
        x.hours(4);
        due("they meet at 6", x.person(0, 0) * 10 + x.person(1, 0), 66);
        x.step(0, 2, 7);
        due("as if he met nobody", x.fit(0, 0), 2);
        x.step(0, 3, 6);
        due("where he was in truth does not fit", x.fit(0, 0), 0);
    }

    // AIMS of one that FIT, as bits (none: by his own number)
    private void noneIsByHisOwnNumber() {
        for (int p = 0; p < 3; p++) {
            WaitingDebts x = Check.made(STREET);
            x.step(p, 0, x.person(p, 4));
            x.step(p, 5, x.person(p, 4));
            due("none alone fits one who stayed", x.fit(p, 0), 1 << p);
        }
        WaitingDebts y = Check.made("person a at 3 open 0 to 1;person b at 3 open 0 to 1;");
        y.step(1, 5, 3);
        due("none, and one at the same place", y.fit(1, 0), 3);
        due("nobody", y.fit(2, 0), -1);
        due("nobody", y.fit(-1, 0), -1);
        WaitingDebts z = Check.made("person a at 3 open 0 to 1;");
        due("one alone has none for an AIM", z.fit(0, 0), 1);
        due("one alone is asked of", z.ask(0, 0, 0) * 10 + z.ask(0, 1, 0), 1);
        z.step(0, 0, 2);
        due("nor does that fit", z.fit(0, 0), 0);
        due("SHAM", z.sham(0), 1);
    }

    // those for whom no AIM (nor none) FITS
    private void shamOfWhom() {
        StringBuilder text = new StringBuilder();
        for (int p = 0; p < 6; p++) {
            text.append("person ").append((char) ('a' + p)).append(" at 3 open 0 to 1;");
        }
        WaitingDebts x = Check.made(text.toString());
        due("nobody at first", x.sham(0), 0);
        int bits = 0;
        for (int p = 5; p >= 0; p--) {
            x.step(p, 0, 3);
            due("one STEP that fits", x.sham(0), bits);
            x.step(p, 0, 4);
            bits |= 1 << p;
            due("at two places at once", x.sham(0), bits);
        }
        due("all of them", bits, 63);
        due("nobody is in an empty TOWN", new WaitingDebts().sham(0), 0);
    }

    // ASK: the HOUR for which .. are fewest; of like ones the first
    private void askOfLikeHours() {
        WaitingDebts x = Check.made(STREET);
        due("three ways part in HOUR 0", x.ask(0, 0, 0) * 10 + x.ask(0, 1, 0), 1);
        due("b's ways to a and c part behind a's DOOR", x.ask(1, 0, 0) * 10 + x.ask(1, 1, 0), 41);
        due("c's ways to a and b never part", x.ask(2, 0, 0) * 10 + x.ask(2, 1, 0), 2);
        WaitingDebts y = Check.made("day 9;person a at 4 open 0 to 6;person b at 8 open 0 to 6;person c at 0 open 0 to 6 rest 2;");
        due("they do on a longer DAY", y.ask(2, 0, 0) * 10 + y.ask(2, 1, 0), 41);
        WaitingDebts z = Check.made("day 10;person a at 4 open 0 to 6;person b at 8 open 0 to 6;person c at 0 open 0 to 6 rest 5;");
        due("they part in HOUR 4, and all are at home in HOUR 9", z.ask(2, 0, 0) * 10 + z.ask(2, 1, 0), 41);
    }

    // the most AIMS that FIT (none is one, too) and are left, wherever he was
    private void askWhatIsLeft() {
        WaitingDebts x = Check.made("person a at 3 open 0 to 1;person b at 3 open 0 to 1;person c at 4 open 0 to 1;person d at 5 open 0 to 1;");
        due("none and b at 3, c and d at 4 in HOUR 0", x.ask(0, 0, 0) * 10 + x.ask(0, 1, 0), 2);
        x.step(0, 0, 4);
        due("c and d are left", x.fit(0, 0), 12);
        due("they part in HOUR 1", x.ask(0, 0, 0) * 10 + x.ask(0, 1, 0), 11);
        x.step(0, 1, 4);
        due("c is left", x.fit(0, 0), 4);
        due("one is left, in any HOUR", x.ask(0, 0, 0) * 10 + x.ask(0, 1, 0), 1);
        WaitingDebts y = Check.made("day 3;person a at 3 open 0 to 1;person b at 3 open 0 to 1;person c at 3 open 0 to 1;person d at 4 open 0 to 1;");
        due("most at one place", y.ask(1, 0, 0) * 10 + y.ask(1, 1, 0), 3);
        due("of the last one", y.ask(3, 0, 0) * 10 + y.ask(3, 1, 0), 3);
        y.step(3, 0, 3);
        due("three that never part", y.ask(3, 0, 0) * 10 + y.ask(3, 1, 0), 3);
        y.step(3, 1, 3);
        y.step(1, 2, 4);
        due("one that is left of four", y.ask(1, 1, 0), 1);
    }

    // NONE if none FITS, or one can't be
    private void askIfNoneFits() {
        WaitingDebts x = Check.made(STREET);
        for (int p : new int[] {-1, 3, MIN, MAX}) {
            due("ASK of nobody", x.ask(p, 0, 0), -1);
            due("ASK of nobody", x.ask(p, 1, 0), -1);
        }
        for (int what : new int[] {-1, 2, MIN, MAX}) {
            due("ASK another what", x.ask(0, what, 0), -1);
        }
        x.step(0, 0, 9);
        due("none FITS", x.ask(0, 0, 0), -1);
        due("none FITS", x.ask(0, 1, 0), -1);
        due("another one's do", x.ask(1, 1, 0), 1);
        x.untell(0);
        due("UNTOLD", x.ask(0, 1, 0), 1);
    }
}
