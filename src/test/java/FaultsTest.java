/** Texts of towns with the FAULT that is due, and limits of a text on both sides. */
public final class FaultsTest {
    private static final String A = "person a at 1 open 0 to 1;";
    private static final String B = "person b at 1 open 0 to 1;";
    private static final String AB = A + B;

    private final Check check = new Check("FaultsTest");

    public static void main(String[] args) {
        FaultsTest test = new FaultsTest();
        test.tokens();
        test.days();
        test.people();
        test.debts();
        test.formulas();
        test.limits();
        test.values();
        test.check.end();
    }

    private void good(String text, int people) {
        check.good(text, people);
    }

    private void bad(String text, int fault, int place) {
        check.bad(text, fault, place);
    }

    private void tokens() {
        good("", 0);
        good(" \n \n", 0);
        good("day5;", 0);
        good("\nday\n5\n;\n", 0);
        good("day 0005;person a at1 open0 to1 chairs1 rest1 price1 coin1;", 1);
        bad("$", 1, 0);
        bad("day 5;$", 1, 6);
        bad("day $", 1, 4);
        bad("day\t5;", 1, 3);
        bad("day 5\r;", 1, 5);
        bad("Day 5;", 1, 0);
        bad("day \u0000", 1, 4);
        bad("day \u00e9", 1, 4);
        bad("day \u00b2", 1, 4);
        bad("abcdefgh", 2, 0);
        bad("abcdefghi", 1, 0);
        bad("person abcdefghi at 1", 1, 7);
        good("person abcdefgh at 1 open 0 to 1;", 1);
        bad("day 12345;", 1, 4);
        bad("day 5a;", 1, 4);
        bad("law 9999a;", 1, 4);
        bad("person a at 1open 0 to 1;", 1, 12);
        bad("law 1 a", 2, 6);
        bad("law 1$", 1, 5);
        bad("{", 1, 0);
        bad("law 1 &", 1, 6);
    }

    private void days() {
        good("day 2;", 0);
        good("day 24;", 0);
        bad("day 1;", 4, 4);
        bad("day 25;", 4, 4);
        bad("day 0;", 4, 4);
        bad("day", 2, 3);
        bad("day  ", 2, 5);
        bad("day 5", 2, 5);
        bad("day 5 \n", 2, 7);
        bad("day ;", 2, 4);
        bad("day x", 2, 4);
        bad("day 5 6", 2, 6);
        bad("day 5;day 6;", 2, 6);
        bad("rain 1; day 6;", 2, 8);
        bad(A + "day 6;", 2, 26);
        bad(";", 2, 0);
        bad("5", 2, 0);
        bad("open", 2, 0);
        bad("day 5;;", 2, 6);
    }

    private void people() {
        good(A, 1);
        good("person a at 20 open 9 to 10 chairs 9 rest 9 price 99 coin 999;", 1);
        good("person a at 0 open 0 to 10 chairs 0 rest 0 price 0 coin 0;", 1);
        good("person a at 0 open 0 to 10 rest 3 coin 4;", 1);
        good("day 24;person a at 0 open 23 to 24 rest 23;", 1);
        bad("person a at 21", 4, 12);
        bad("person a at 1 open 10 to 11", 4, 19);
        bad("person a at 1 open 5 to 5", 4, 24);
        bad("person a at 1 open 5 to 4", 4, 24);
        bad("person a at 1 open 5 to 11", 4, 24);
        bad("day 3;person a at 1 open 3", 4, 25);
        bad("day 3;person a at 1 open 2 to 3 rest 3", 4, 37);
        bad("person a at 1 open 0 to 1 chairs 10", 4, 33);
        bad("person a at 1 open 0 to 1 rest 10", 4, 31);
        bad("person a at 1 open 0 to 1 price 100", 4, 32);
        bad("person a at 1 open 0 to 1 coin 1000", 4, 31);
        bad("person a at 1 open 0 to 1 rest 1 chairs 1", 2, 33);
        bad("person a at 1 open 0 to 1 coin 1 coin 1", 2, 33);
        bad("person a at 1 open 0 to 1 chairs", 2, 32);
        bad("person a at 1 open 0 to 1 chairs;", 2, 32);
        bad("person a at 1 open 0 to 1 a", 2, 26);
        bad("person a to 1", 2, 9);
        bad("person a at b", 2, 12);
        bad("person a at 1 to 1", 2, 14);
        bad("person a at 1 open 0 open 1", 2, 21);
        bad("person 5", 2, 7);
        bad("person ;", 2, 7);
        bad("person", 2, 6);
        for (String word : "day person at open to chairs rest price coin debt law interest rain or and not owed date hour wet seat met proxy".split(" ")) {
            bad("person " + word + " at 1 open 0 to 1;", 2, 7);
            bad(AB + "debt " + word + " to b 1;", 2, 57);
            bad(AB + "debt a to " + word + " 1;", 2, 62);
        }
        good("person days at 1 open 0 to 1;person ra at 1 open 0 to 1;person rainy at 1 open 0 to 1;", 3);
        bad(A + "person a at 2 open 0 to 1;", 3, 33);
        bad(AB + "person b ?", 3, 59);
        good(A + "person aa at 2 open 0 to 1;", 2);
    }

    private void debts() {
        good(AB + "debt a to b 1;debt b to a 9999;", 2);
        bad(AB + "debt a to b 0;", 4, 64);
        bad(AB + "debt a to b;", 2, 63);
        bad(AB + "debt a b 1;", 2, 59);
        bad(AB + "debt a to a 1;", 3, 62);
        bad(AB + "debt c to c 1;", 5, 57);
        bad(AB + "debt a to c 1;", 5, 62);
        bad(AB + "debt a to b 1;debt a to b 1;", 3, 76);
        bad("debt a to b 1;" + AB, 5, 5);
        bad(A + "debt a to b 1;" + B, 5, 36);
        bad(AB + "debt", 2, 56);
        bad(AB + "debt a", 2, 58);
        bad(AB + "debt a to", 2, 61);
        bad(AB + "debt 1 to b 1;", 2, 57);
        bad(AB + "debt a to 1;", 2, 62);
    }

    private void formulas() {
        good("law 1;interest owed;rain (hour);", 0);
        good("law not not 1<2 and 3 or 4>5%6/7*8-9+owed or date=hour or met and proxy and seat and wet;", 0);
        good("rain(1<2)<3;", 0);
        bad("law", 2, 3);
        bad("law;", 2, 3);
        bad("law 1", 2, 5);
        bad("law 1 2", 2, 6);
        bad("law 1+;", 2, 6);
        bad("law +1;", 2, 4);
        bad("law -1;", 2, 4);
        bad("law 1<2=3;", 2, 7);
        bad("law 1+2<3>4;", 2, 9);
        bad("law 1<not 2;", 2, 6);
        bad("law 1+not 2;", 2, 6);
        good("law 1 and not 2;", 0);
        bad("law not;", 2, 7);
        bad("law (1;", 2, 6);
        bad("law (1", 2, 6);
        bad("law 1);", 2, 5);
        bad("law ();", 2, 5);
        bad("law a;", 2, 4);
        bad("law day;", 2, 4);
        bad("law 1 or;", 2, 8);
        bad("law 1;law 1;", 2, 6);
        bad("interest 1;interest 1;", 2, 11);
        bad("rain 1;law 1;rain 1;", 2, 13);
    }

    private static String times(String text, int n) {
        return text.repeat(n);
    }

    private void limits() {
        String six = "";
        for (int i = 0; i < 6; i++) {
            six += "person " + (char) ('a' + i) + " at 1 open 0 to 1;";
        }
        good(six, 6);
        bad(six + "person", 2, 156);
        bad(six + "law 1;person a", 2, 162);
        String twenty = six;
        for (int i = 0; i < 20; i++) {
            twenty += "debt " + (char) ('a' + i / 5) + " to " + (char) ('a' + (i % 5 + i / 5 + 1) % 6) + " 7;";
        }
        good(twenty, 6);
        bad(twenty + "debt", 2, 156 + 20 * 14);
        good("law " + times("(", 7) + "1" + times(")", 7) + ";", 0);
        bad("law " + times("(", 8) + "1", 2, 11);
        good("law " + times("not ", 7) + "1;", 0);
        bad("law " + times("not ", 8) + "1", 2, 32);
        good("law " + times("not(", 3) + "not 1" + times(")", 3) + ";", 0);
        bad("law " + times("not(", 3) + "not(1", 2, 19);
        bad("law " + times("(not ", 3) + "(not 1", 2, 20);
        good("law " + times("(", 6) + "(1)+(2)" + times(")", 6) + ";", 0);
        good("law 1" + times("+1", 29) + ";", 0);
        bad("law 1" + times("+1", 30) + ";", 2, 64);
        good("law (1" + times("+1", 28) + ");", 0);
        bad("law (1" + times("+1", 29) + ");", 2, 63);
        bad("law 1" + times("+1", 29) + "+(", 2, 64);
        bad("law 1" + times("+1", 29) + "+;", 2, 64);
        bad("law 1" + times("+1", 29) + "+$", 1, 64);
        String sixty = "law 1" + times("+1", 29) + ";interest 1" + times("+1", 29) + ";";
        good(sixty + "rain 1" + times("+1", 19) + ";", 0);
        bad(sixty + "rain 1" + times("+1", 20) + ";", 2, sixty.length() + 5 + 40);
        WaitingDebts x = Check.made(sixty + "rain (1" + times("+1", 18) + ");");
        check.due("units", x.about(10), 80);
        check.due("numbers in the law", x.about(11), 30);
        good(times(" ", 1600), 0);
        good("law 1" + times("\n", 1594) + ";", 0);
        String nots = "law 1" + times(" or not not not not not not not 1", 29) + ";";
        good(nots, 0);
        check.due("length of many nots", nots.length() > 900 ? 1 : 0, 1);
    }

    /** What comes of a formula, as rain shows it (1, if it is not 0): each is 1 as told. */
    private void values() {
        String[] isOne = {
            "1+2*3=7", "(1+2)*3=9", "7-2-1=4", "8/2/2=2", "7%4=3", "(0-7)/2=0-3", "(0-7)%2=0-1", "7/0=0", "7%0=0",
            "2*3%4=2", "9999*9999*9999*9999=(0-1*9999)*(0-9999)*9999*9999", "not 0", "not not 5=5", "not 5=0", "(not 5)=0",
            "(5 and 7)=1", "(5 and 0)=0", "(0 or 7)=1", "(0 or 0)=0", "1 or 1 and 0", "(1 or 1) and 1", "not 0 and 1",
            "not (0 and 1)", "(3<4)+(4<3)=1", "(4>3)*2=2", "3=3", "not 3=4", "not 3>3", "not 3<3", "0-1", "2", "2<3 and 3>2",
            "hour=3", "date=2", "owed=0", "wet=0", "seat+met+proxy=0", "(5)=5", "date*10+hour=23",
            "9999*9999*30<0", "9999*9999*22%1000=0-274", "9999*9999*22/1000/1000=0-2095",
            "2048*1024*1024/(0-1)<0", "2048*1024*1024%(0-1)=0", "2048*1024*1024-1>0", "(0-2)%3<0", "not 1 or 1", "(not 1 or 1)=1", "1 and 2 and 3", "0 or 0 or 9"};
        for (String e : isOne) {
            WaitingDebts x = Check.made("rain " + e + ";");
            check.due("wet(2, 3) by " + e, x.wet(2, 3), 1);
            WaitingDebts y = Check.made("rain not (" + e + ");");
            check.due("wet(2, 3) by not " + e, y.wet(2, 3), 0);
        }
    }
}
