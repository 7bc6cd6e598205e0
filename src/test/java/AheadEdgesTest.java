/** "Terms" of the document, ==== 3: the most HOURS that are looked ahead, and which of like ones is taken. */
public final class AheadEdgesTest {
    private final Check check = new Check("AheadEdgesTest");

    public static void main(String[] args) {
        AheadEdgesTest test = new AheadEdgesTest();
        test.willBehindAnyHours();
        test.whenWithin200();
        test.lookingAheadBeyond2000();
        test.throngWithin();
        test.throngOfLikeOnes();
        test.meetingWithin();
        test.helpWithin200();
        test.helpByWhom();
        test.planWithin300();
        test.planOfLikeOnes();
        test.planWithoutOthers();
        test.ringsOfTwoOrMore();
        test.ringOfLikeOnes();
        test.ringIsCleared();
        test.hideWithinTheDay();
        test.hideOfLikeOnes();
        test.hideWhatIsOwedToHim();
        test.wordsFrom0To99();
        test.wordsToldOtherwise();
        test.wordsBehindHours();
        test.wordsByInterestAndCoins();
        test.check.end();
    }

    private void due(String what, int got, int want) {
        check.due(what, got, want);
    }

    private static String lying(WaitingDebts x) {
        StringBuilder all = new StringBuilder();
        for (int i = 0; i < x.about(12); i++) {
            all.append(x.lies(i)).append(' ');
        }
        return all.toString().trim();
    }

    /** All at one place, always open: who has an AIM waits in each HOUR. */
    private static String always(int people, String options) {
        StringBuilder all = new StringBuilder("day 24;");
        for (int p = 0; p < people; p++) {
            all.append("person ").append((char) ('a' + p)).append(" at 3 open 0 to 24").append(options).append(";");
        }
        return all.toString();
    }

    private void willBehindAnyHours() {
        WaitingDebts x = Check.made(always(2, "") + "debt a to b 500;law 1;");
        x.aim(0, 1);
        due("WILL behind -1", x.will(0, 1, -1), -1);
        for (int n = 0; n <= 200; n++) {
            due("WILL behind " + n, x.will(0, 1, n), 500 - n);
        }
        due("WILL behind 201", x.will(0, 1, 201), -1);
        due("nothing is done", x.owed(0, 1), 500);
    }

    private void whenWithin200() {
        for (int owed : new int[] {1, 2, 199, 200, 201, 202, 9999}) {
            WaitingDebts x = Check.made(always(2, "") + "debt a to b " + owed + ";law 1;");
            due("WHEN of " + owed + " without an AIM", x.when(0, 1), -1);
            x.aim(0, 1);
            due("WHEN of " + owed, x.when(0, 1), owed <= 200 ? owed : -1);
            due("WHEN of nothing", x.when(1, 0), 0);
            x.hours(1);
            due("WHEN of " + owed + " from a later HOUR", x.when(0, 1), owed <= 201 ? owed - 1 : -1);
        }
    }

    /** HOURS are let go by up to 2,000, but are looked at beyond that, and DATES beyond 999. */
    private void lookingAheadBeyond2000() {
        WaitingDebts x = Check.made("day 2;person a at 3 open 0 to 2;person b at 3 open 0 to 2;debt a to b 900;law (date>999)*(wet+1);rain date=1001;");
        for (int i = 0; i < 33; i++) {
            x.hours(60);
        }
        x.hours(18);
        x.aim(0, 1);
        due("HOURS, DATE", x.about(4) * 1000 + x.about(2), 1998999);
        due("on DATE 999", x.pays(0), 0);
        due("WILL beyond 2,000", x.will(0, 1, 3), 899);
        due("WILL in rain beyond", x.will(0, 1, 6), 900 - 2 - 4);
        due("HOURS", x.hours(2), 2000);
        due("pays on DATE 1000", x.pays(0), 1);
        due("wet on DATE 999", x.wet(999, 0), 0);
        due("wet on DATE 1001", x.wet(1001, 0), -1);
        due("WILL from 2,000 on", x.will(0, 1, 200), 900 - 2 - 4 - 196);
        due("no HOUR more", x.hours(1), -1);
    }

    // within n HOURS, the most who WAIT there in one HOUR
    private void throngWithin() {
        WaitingDebts x = Check.made("day 24;person a at 0 open 0 to 24;person b at 4 open 0 to 24;person c at 1 open 0 to 24;person d at 4 open 7 to 8;");
        x.aim(0, 1);
        x.aim(2, 1);
        int[][] want = {{0, -1}, {0, -1}, {0, -1}, {1, 4}, {2, 5}, {2, 5}};
        for (int n = 1; n <= want.length; n++) {
            due("THRONG within " + n, x.throng(1, n, 0), want[n - 1][0]);
            due("its HOUR", x.throng(1, n, 1), want[n - 1][1]);
        }
        due("THRONG within 200", x.throng(1, 200, 0) * 10 + x.throng(1, 200, 1), 25);
        due("THRONG within 0", x.throng(1, 0, 0), -2);
        due("THRONG within 201", x.throng(1, 201, 0), -2);
        due("of a DOOR at the same place", x.throng(3, 200, 0) * 10 + x.throng(3, 200, 1), -1);
        x.hours(4);
        due("from now on", x.throng(1, 1, 0) * 10 + x.throng(1, 1, 1), 21);
        x.aim(0, 3);
        x.aim(2, 3);
        due("shut until then", x.throng(3, 3, 0), 0);
        due("open then", x.throng(3, 4, 0) * 10 + x.throng(3, 4, 1), 24);
    }

    private void throngOfLikeOnes() {
        WaitingDebts x = Check.made(always(4, ""));
        for (int p = 1; p < 4; p++) {
            x.aim(p, 0);
        }
        due("the most", x.throng(0, 200, 0), 3);
        due("the first of like HOURS", x.throng(0, 200, 1), 1);
        x.aim(0, 1);
        due("who MEETS does not count", x.throng(0, 200, 0), 2);
        due("nor does the other one", x.throng(1, 200, 0) * 10 + x.throng(1, 200, 1), -1);
    }

    private void meetingWithin() {
        WaitingDebts x = Check.made("day 24;person a at 0 open 0 to 24;person b at 20 open 0 to 24;");
        x.aim(0, 1);
        x.aim(1, 0);
        due("meeting within 10", x.meeting(0, 1, 10), -1);
        due("meeting within 11", x.meeting(0, 1, 11), 11);
        due("meeting within 12", x.meeting(0, 1, 12), 11);
        due("meeting within 200", x.meeting(1, 0, 200), 11);
        due("meeting within 0", x.meeting(0, 1, 0), -2);
        due("meeting within 201", x.meeting(0, 1, 201), -2);
        x.hours(10);
        due("in the next HOUR", x.meeting(0, 1, 1), 1);
    }

    // (200 HOURS at most)
    private void helpWithin200() {
        for (int owed : new int[] {1, 199, 200, 201}) {
            WaitingDebts x = Check.made(always(2, "") + "debt a to b " + owed + ";law 1;");
            due("HELP for " + owed, x.help(0, 1, 0), owed <= 200 ? owed : -1);
            due("by whom", x.help(0, 1, 1), owed <= 200 ? 0 : -1);
        }
    }

    // somebody else than that other one (himself, too) .. of like ones the first
    private void helpByWhom() {
        WaitingDebts x = Check.made(always(4, "") + "debt c to d 100;law 10;");
        due("like ones", x.help(2, 3, 0) * 10 + x.help(2, 3, 1), 100);
        x.aim(2, 3);
        due("all others as they are: he waits himself, too", x.help(2, 3, 0) * 10 + x.help(2, 3, 1), 50);
        due("nothing is owed", x.help(0, 1, 0) * 10 + x.help(0, 1, 1), 0);
        due("nothing is owed to the first: the next one", x.help(1, 0, 0) * 10 + x.help(1, 0, 1), 1);
        due("nothing is done", x.person(0, 1) * 10 + x.person(0, 2), -10);
        WaitingDebts y = Check.made("person a at 9 open 0 to 10;person b at 3 open 0 to 10;person c at 4 open 0 to 10 price 5;debt a to b 100;");
        due("the nearer one can't be paid: himself", y.help(0, 1, 0) * 10 + y.help(0, 1, 1), 80);
        WaitingDebts z = Check.made("person a at 9 open 0 to 10 coin 10;person b at 3 open 0 to 10;person c at 4 open 0 to 10 price 5;debt a to b 100;");
        due("the nearer one", z.help(0, 1, 0) * 10 + z.help(0, 1, 1), 32);
        due("not that other one", z.help(2, 1, 1), 0);
        WaitingDebts w = Check.made("person a at 1 open 0 to 1;person b at 9 open 0 to 1;debt a to b 1;");
        due("nobody comes there while it is open", w.help(0, 1, 0), -1);
        due("by whom", w.help(0, 1, 1), -1);
    }

    // (300 HOURS at most)
    private void planWithin300() {
        for (int owed : new int[] {1, 2, 299, 300, 301, 302}) {
            WaitingDebts x = Check.made(always(2, "") + "debt a to b " + owed + ";law 1;");
            x.ring();
            due("PLAN of " + owed, x.plan(0), owed <= 300 ? owed : -1);
            check.due("what lies there", lying(x), owed <= 300 ? "1" : "");
            WaitingDebts y = Check.made(always(3, "") + "debt a to b " + owed + ";debt b to a 1;debt a to c 1;law 1;");
            y.ring();
            due("PLAN of " + owed + " and 1", y.plan(0), owed <= 299 ? owed + 1 : -1);
            check.due("what lies there", lying(y), owed <= 299 ? "1 2" : "");
        }
    }

    // by which order .. soonest; of like ones the first
    private void planOfLikeOnes() {
        WaitingDebts x = Check.made(always(6, "") + "debt f to e 60;debt f to b 60;debt f to a 60;debt f to d 60;debt f to c 60;");
        due("five like ones", x.plan(5), 5);
        check.due("the first order", lying(x), "0 1 2 3 4");
        // c's DOOR is shut first, so that he must come first; a and b are like ones.
        WaitingDebts y = Check.made("day 6;person a at 3 open 0 to 6;person b at 3 open 0 to 6;person c at 3 open 0 to 1;person d at 3 open 0 to 6;debt d to a 60;debt d to b 60;debt d to c 60;");
        due("one that shuts soon", y.plan(3), 3);
        check.due("he is first, then the first of like ones", lying(y), "2 0 1");
        y.hours(1);
        due("later", y.plan(3), 6);
        check.due("of like ones the first", lying(y), "0 1 2");
    }

    // all others have no AIMS; he is there for himself
    private void planWithoutOthers() {
        WaitingDebts x = Check.made(always(3, "") + "debt a to b 120;debt c to b 60;law 60+met*60;");
        x.aim(1, 0);
        x.aim(2, 1);
        x.stand(2, 0);
        x.stand(0, 2);
        due("nobody meets or helps him", x.plan(0), 2);
        check.due("the order", lying(x), "1");
        due("he owes nothing", x.plan(1), 0);
        check.due("no order", lying(x), "");
        due("nothing is done", x.person(1, 1) * 100 + x.person(0, 2) * 10 + x.person(2, 1), 21);
    }

    // rows of two or more PEOPLE .. told from the least number on
    private void ringsOfTwoOrMore() {
        String[] debts = {"", "debt a to b 5;", "debt a to b 5;debt b to c 5;", "debt a to b 5;debt b to a 5;", "debt c to b 5;debt b to a 5;debt a to c 5;",
            "debt f to e 5;debt e to f 5;", "debt a to b 5;debt b to c 5;debt c to d 5;debt d to e 5;debt e to f 5;debt f to a 5;"};
        int[] rings = {0, 0, 0, 1, 1, 1, 1};
        int[] frees = {0, 0, 0, 10, 15, 10, 30};
        String[] rows = {"", "", "", "0 1", "0 2 1", "4 5", "0 1 2 3 4 5"};
        for (int i = 0; i < debts.length; i++) {
            WaitingDebts x = Check.made(always(6, "") + debts[i]);
            due("RINGS of " + debts[i], x.rings(), rings[i]);
            due("what is freed of " + debts[i], x.ring(), frees[i]);
            check.due("the row of " + debts[i], lying(x), rows[i]);
        }
        WaitingDebts y = Check.made(always(2, "") + "debt a to b 60;debt b to a 60;");
        due("a RING", y.rings(), 1);
        y.aim(0, 1);
        y.hours(1);
        due("none, as one is paid", y.rings() + y.ring(), 0);
    }

    // BEST: the one that frees most; of like ones the first row
    private void ringOfLikeOnes() {
        String[] debts = {"debt a to b 5;debt b to a 5;debt c to d 5;debt d to c 5;", "debt a to b 5;debt b to a 5;debt c to d 6;debt d to c 6;",
            "debt a to b 15;debt b to a 15;debt b to c 10;debt c to a 10;", "debt a to b 14;debt b to a 14;debt b to c 10;debt c to a 10;",
            "debt a to b 16;debt b to a 16;debt b to c 10;debt c to a 10;", "debt a to c 15;debt c to a 15;debt a to b 10;debt b to c 10;",
            "debt b to c 5;debt c to b 5;debt a to d 5;debt d to a 5;", "debt a to b 9999;debt b to c 9999;debt c to d 9999;debt d to a 9999;"};
        int[] frees = {10, 12, 30, 30, 32, 30, 10, 39996};
        String[] rows = {"0 1", "2 3", "0 1", "0 1 2", "0 1", "0 1 2", "0 3", "0 1 2 3"};
        for (int i = 0; i < debts.length; i++) {
            WaitingDebts x = Check.made(always(4, "") + debts[i]);
            due("what is freed of " + debts[i], x.ring(), frees[i]);
            check.due("the row of " + debts[i], lying(x), rows[i]);
        }
    }

    // Cleared: each of these is less by the least.
    private void ringIsCleared() {
        WaitingDebts x = Check.made(always(3, "") + "debt a to b 10;debt b to c 12;debt c to a 15;debt b to a 7;");
        due("clear", x.clear(), 30);
        due("each is less by 10", x.owed(0, 1) * 10000 + x.owed(1, 2) * 100 + x.owed(2, 0), 205);
        due("another one is not", x.owed(1, 0), 7);
        due("none is left", x.clear(), -1);
        due("one of two alike", Check.town(x, always(2, "") + "debt a to b 7;debt b to a 7;") + x.clear(), 2 + 14);
        due("both are 0", x.about(13), 0);
    }

    // his DOOR is open from another HOUR on, as long
    private void hideWithinTheDay() {
        String street = "day 4;person a at 3 open 0 to 4;person b at 3 open 0 to 2;debt a to b 900;";
        int[] owed = {900, 900, 840, 780, 780, 780, 720, 660, 660};
        int[] from = {1, 2, 2, 0, 1, 2, 2, 0, 1};
        WaitingDebts x = Check.made(street);
        x.aim(0, 1);
        for (int n = 1; n <= owed.length; n++) {
            due("HIDE for " + n, x.hide(1, n, 0), owed[n - 1]);
            due("from which HOUR, for " + n, x.hide(1, n, 1), from[n - 1]);
        }
        due("HIDE for 0", x.hide(1, 0, 0), -2);
        due("HIDE for 60", x.hide(1, 60, 0) * 10 + x.hide(1, 60, 1), 0);
        due("HIDE for 61", x.hide(1, 61, 0), -2);
        due("nothing is done", x.person(1, 5) * 10 + x.person(1, 6), 2);
        WaitingDebts y = Check.made("day 4;person a at 3 open 0 to 4;person b at 3 open 3 to 4;debt a to b 900;");
        y.aim(0, 1);
        due("an HOUR alone, as it is", y.hide(1, 3, 0) * 10 + y.hide(1, 3, 1), 9003);
        y.hours(3);
        due("behind that HOUR", y.hide(1, 1, 0) * 10 + y.hide(1, 1, 1), 9000);
        WaitingDebts z = Check.made("day 4;person a at 3 open 0 to 4;person b at 3 open 0 to 4;debt a to b 900;");
        z.aim(0, 1);
        due("open all DAY: nowhere to go", z.hide(1, 3, 0) * 10 + z.hide(1, 3, 1), 7200);
    }

    // of like ones the first (as it is, then by HOURS)
    private void hideOfLikeOnes() {
        WaitingDebts x = Check.made("day 6;person a at 3 open 0 to 6;person b at 3 open 4 to 5;debt a to b 900;");
        due("nobody waits: as it is", x.hide(1, 6, 0) * 10 + x.hide(1, 6, 1), 9004);
        x.aim(0, 1);
        due("each alike: as it is", x.hide(1, 6, 0) * 10 + x.hide(1, 6, 1), 8404);
        due("not come to yet: as it is", x.hide(1, 4, 1), 4);
        due("come to: the first other one", x.hide(1, 5, 0) * 10 + x.hide(1, 5, 1), 9005);
        x.hours(4);
        due("in that HOUR: the first one", x.hide(1, 1, 0) * 10 + x.hide(1, 1, 1), 9000);
    }

    // what is owed to him then is most
    private void hideWhatIsOwedToHim() {
        WaitingDebts x = Check.made("day 3;person a at 3 open 0 to 3;person b at 3 open 0 to 1;person c at 2 open 0 to 3;debt a to b 60;debt c to b 500;debt b to a 70;interest owed/10;");
        x.aim(0, 1);
        x.aim(2, 1);
        // Open in HOUR 0, a pays all; in HOUR 1 or 2, a and c pay 60 each.
        due("of all who owe him, with interest", x.hide(1, 3, 0), 550);
        due("from which HOUR on", x.hide(1, 3, 1), 0);
        due("of one to whom nobody comes", x.hide(0, 3, 0), 77);
        due("of one to whom nobody owes", x.hide(2, 3, 0), 0);
        due("as it is", x.hide(2, 3, 1), 0);
    }

    private static WaitingDebts lawOf(String law, int owed) {
        WaitingDebts x = Check.made(always(2, "") + "debt a to b " + owed + ";law " + law + ";");
        x.aim(0, 1);
        return x;
    }

    private void word(String law, int owed, int n, int ways, String first) {
        WaitingDebts x = lawOf(law, owed);
        due("WORD of law " + law + " for " + owed + " in " + n, x.word(0, 1, n), ways);
        check.due("the first one of law " + law + " for " + owed + " in " + n, lying(x), first);
    }

    // told otherwise (0 .. 99)
    private void wordsFrom0To99() {
        word("5", 98, 1, 2, "0 98");
        word("5", 99, 1, 1, "0 99");
        word("5", 100, 1, 0, "");
        word("not 5", 1, 1, 1, "0 0");
        word("not 0", 1, 1, 0, "");
        word("1000", 1, 1, 99, "0 1");
        word("100", 99, 1, 1, "0 99");
        word("0-owed+9999", 1, 1, 99 + 98, "0 1");
    }

    // a number (N) in the law told otherwise; the first (by numbers as told, then by what is told)
    private void wordsToldOtherwise() {
        word("7", 1, 1, 98, "0 1");
        word("99", 99, 1, 0, "");
        word("98", 98, 1, 1, "0 99");
        word("0", 1, 1, 99, "0 1");
        word("3*4", 20, 1, 95 + 93, "0 5");
        word("0*3+1", 2, 1, 99 + 0 + 98, "0 1");
        word("1+0*50", 50, 1, 50 + 99 + 0, "0 50");
        word("(1)+(2)", 100, 1, 2 + 1, "0 98");
        word("owed", 240, 1, 0, "");
        word("seat*9+5", 50, 1, 50, "1 50");
        word("seat*9+proxy*8+met*7+0*99", 50, 1, 99, "3 1");
        word("1-1+1-1+(owed=7)", 1, 1, 98 + 1 + 98 + 1 + 1, "0 2");
        WaitingDebts x = Check.made(always(2, "") + "debt a to b 5;interest 7;rain 8;");
        x.aim(0, 1);
        due("no law, no number", x.word(0, 1, 1), 0);
        check.due("nothing lies there", lying(x), "");
        WaitingDebts y = lawOf("3*4", 5);
        due("nothing is owed: any", y.word(1, 0, 1), 2 * 99);
        check.due("the first of any", lying(y), "0 0");
        WaitingDebts z = lawOf("0*4", 5);
        due("nothing is owed: any but as told", z.word(1, 0, 1), 2 * 99);
        check.due("the first of any but as told", lying(z), "0 1");
        due("nothing is done", z.pays(0), 0);
    }

    // behind n HOURS (1 .. 60)
    private void wordsBehindHours() {
        word("1", 60, 60, 98, "0 2");
        word("0", 60, 60, 99, "0 1");
        word("0", 61, 60, 98, "0 2");
        word("0", 120, 2, 40, "0 60");
        word("0", 120, 1, 0, "");
        word("hour*5", 30, 1, 0, "");
        word("hour*5", 30, 2, 70, "0 30");
        word("hour*5", 30, 3, 90, "0 10");
        word("date*5", 30, 24, 0, "");
        word("date*5", 30, 25, 70, "0 30");
        WaitingDebts x = lawOf("1", 5);
        due("WORD in 0 HOURS", x.word(0, 1, 0), -1);
        due("WORD in -1 HOURS", x.word(0, 1, -1), -1);
        due("WORD in 61 HOURS", x.word(0, 1, 61), -1);
        check.due("nothing lies there", lying(x), "");
    }

    /** What each HOUR and DUSK does counts for each WORD as it does in earnest. */
    private void wordsByInterestAndCoins() {
        String two = "day 2;person a at 0 open 0 to 2;person b at 0 open 0 to 2;debt a to b 30;law 5;interest 10;";
        WaitingDebts x = Check.made(two);
        x.aim(0, 1);
        due("ahead of interest", x.word(0, 1, 2), 85);
        due("interest comes, too", x.word(0, 1, 3), 86);
        check.due("the first", lying(x), "0 14");
        WaitingDebts z = Check.made("day 4;person a at 3 open 0 to 4;person b at 3 open 2 to 3;debt a to b 30;law 0;");
        z.aim(0, 1);
        due("shut yet", z.word(0, 1, 2), 0);
        due("open then", z.word(0, 1, 3), 70);
        due("not again until the next DAY", z.word(0, 1, 6), 70);
        due("open again", z.word(0, 1, 7), 85);
        for (int price : new int[] {1, 3}) {
            wordsByCoinsOfOthers(price);
        }
    }

    private void wordsByCoinsOfOthers(int price) {
        String head = " at 0 open 0 to 4";
        String four = "day 4;person a" + head + " price " + price + ";person b" + head + ";person c" + head + " coin " + price + ";person d" + head + " price " + price + ";";
        // d waits for a at b's DOOR for a price; a earns the coin for it by waiting for c there first.
        WaitingDebts x = Check.made(four + "debt a to b 20;debt c to b 9;law 10;");
        x.aim(3, 1);
        x.stand(3, 0);
        due("no coin", x.word(0, 1, 4), 0);
        x.aim(0, 1);
        x.stand(0, 2);
        due("coin of another debt", x.word(0, 1, 1), 80);
        check.due("the first", lying(x), "0 20");
        due("coin but once", x.word(0, 1, 4), 80);
        due("the other debt", x.word(2, 1, 1), 90);
        // The same, with d earning for a, who is ahead of him by number: he is paid an HOUR later.
        WaitingDebts y = Check.made(four + "debt d to b 20;debt c to b 9;law 10;");
        y.aim(0, 1);
        y.stand(0, 3);
        y.aim(3, 1);
        y.stand(3, 2);
        due("no coin yet", y.word(3, 1, 1), 0);
        due("coin of the HOUR ahead", y.word(3, 1, 2), 80);
    }
}
