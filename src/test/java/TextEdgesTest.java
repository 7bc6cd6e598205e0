/** "Terms" of the document, what is ahead of ==== 2: each limit of the TOWN's text at its edge and beside it, and each FAULT at its place. */
public final class TextEdgesTest {
    private static final String A = "person a at 1 open 0 to 1;";
    private static final String AB = A + "person b at 1 open 0 to 1;";
    private static final String WORDS =
        "day person at open to chairs rest price coin debt law interest rain or and not owed date hour wet seat met proxy";

    private final Check check = new Check("TextEdgesTest");

    public static void main(String[] args) {
        TextEdgesTest test = new TextEdgesTest();
        test.bytesOfAText();
        test.emptyAtFirst();
        test.lettersOfAWord();
        test.digitsOfANumber();
        test.anyByteBehindALine();
        test.anyByteBehindANumber();
        test.blanks();
        test.asLongAsCanBe();
        test.noLetterBehindANumber();
        test.wordsAreNoNames();
        test.linesAndTheirParts();
        test.oneTokenLeftOut();
        test.optionsInTheirOrder();
        test.formulas();
        test.dayOnceAheadOfAll();
        test.hoursOfADay();
        test.howManyPeople();
        test.placesOfDoors();
        test.hoursOfDoors();
        test.chairsRestPriceCoin();
        test.howManyDebts();
        test.debtsOfWhom();
        test.minutes();
        test.lawInterestRainOnce();
        test.unitsOfOneFormula();
        test.unitsInAll();
        test.withinOthers();
        test.manyTowns();
        test.theFirstFault();
        test.theLeastFaultAtOnePlace();
        test.check.end();
    }

    private WaitingDebts good(String text, int people) {
        return check.good(text, people);
    }

    private void bad(String text, int fault, int place) {
        check.bad(text, fault, place);
    }

    /** A text without FAULT at this edge, and what a call shows of it then. */
    private void shows(String text, int people, Check.Call call, int want) {
        check.due("shown of " + text, call.on(good(text, people)), want);
    }

    private static String times(int n, String text) {
        return text.repeat(n);
    }

    private static String person(int i) {
        return "person " + (char) ('a' + i) + " at 1 open 0 to 1;";
    }

    private static String people(int n) {
        StringBuilder all = new StringBuilder();
        for (int i = 0; i < n; i++) {
            all.append(person(i));
        }
        return all.toString();
    }

    // A TOWN is a text of at most 1,600 bytes.
    private void bytesOfAText() {
        shows("law 1" + times(1593, " ") + ";", 0, x -> x.about(11), 1);
        shows("law 1" + times(1594, " ") + ";", 0, x -> x.about(11), 1);
        bad("law 1" + times(1594, " "), 2, 1599);
        bad("law 1" + times(1595, " "), 2, 1600);
        bad(times(1599, " ") + "$", 1, 1599);
        WaitingDebts x = new WaitingDebts();
        Check.tape(x, "law 1" + times(1594, " ") + ";");
        check.due("a byte more than 1,600", x.feed('$' << 24, 0, 0, 0, 0), -1);
        check.due("the 1,600 bytes that were", x.town(), 0);
        check.due("the 1,600 bytes that were", x.about(11), 1);
    }

    // (empty at first)
    private void emptyAtFirst() {
        WaitingDebts x = new WaitingDebts();
        check.due("the TAPE at first", x.about(9), 0);
        check.due("PEOPLE at first", x.about(0), 0);
        check.due("the empty text is a TOWN", x.town(), 0);
        good("", 0);
    }

    // words (a .. z, 8 at most)
    private void lettersOfAWord() {
        good("person a at 1 open 0 to 1;", 1);
        good("person z at 1 open 0 to 1;", 1);
        good("person abcdefg at 1 open 0 to 1;", 1);
        good("person abcdefgh at 1 open 0 to 1;", 1);
        bad("person abcdefghi at 1 open 0 to 1;", 1, 7);
        bad("person " + times(1000, "a") + " at 1 open 0 to 1;", 1, 7);
        bad(AB + "debt a to aaaaaaaaa 1;", 1, 62);
        bad("interests 1;", 1, 0);
        bad("interest", 2, 8);
        good("person abcdefgx at 1 open 0 to 1;person abcdefgy at 1 open 0 to 1;", 2);
        bad("person abcdefgx at 1 open 0 to 1;person abcdefgx at 1 open 0 to 1;", 3, 40);
        shows("person abcdefgx at 1 open 0 to 1;person abcdefgy at 1 open 0 to 1;debt abcdefgy to abcdefgx 7;", 2, x -> x.owed(1, 0), 7);
        good("person aa at 1 open 0 to 1;person a at 1 open 0 to 1;person aaa at 1 open 0 to 1;", 3);
        bad(A + "debt aa to a 1;", 5, 31);
        bad("person aa at 1 open 0 to 1;debt a to aa 1;", 5, 32);
        bad("person A at 1 open 0 to 1;", 1, 7);
        bad("person a{ at 1 open 0 to 1;", 1, 8);
        bad("person a` at 1 open 0 to 1;", 1, 8);
    }

    // N (1 to 4 digits)
    private void digitsOfANumber() {
        shows(AB + "debt a to b 1;", 2, x -> x.owed(0, 1), 1);
        shows(AB + "debt a to b 01;", 2, x -> x.owed(0, 1), 1);
        shows(AB + "debt a to b 0001;", 2, x -> x.owed(0, 1), 1);
        bad(AB + "debt a to b 00001;", 1, 64);
        shows(AB + "debt a to b 9999;", 2, x -> x.owed(0, 1), 9999);
        bad(AB + "debt a to b 10000;", 1, 64);
        good("law 9999;", 0);
        bad("law 99999;", 1, 4);
        bad("law 1+" + times(1000, "1") + ";", 1, 6);
        bad("day 00010;", 1, 4);
        shows("day 0010;", 0, x -> x.about(1), 10);
    }

    // signs ; ( ) < > = + - * / %; blanks (32, 10): nothing else begins a TOKEN.
    private void anyByteBehindALine() {
        for (int b = 0; b < 256; b++) {
            String text = "day 5;" + (char) b;
            if (b == ' ' || b == '\n') {
                good(text, 0);
            } else if (b >= 'a' && b <= 'z' || b >= '0' && b <= '9' || b > 0 && ";()<>=+-*/%".indexOf(b) >= 0) {
                bad(text, 2, 6);
            } else {
                bad(text, 1, 6);
            }
        }
    }

    private void anyByteBehindANumber() {
        for (int b = 0; b < 256; b++) {
            String text = "law 1" + (char) b + "2;";
            if (b == ' ' || b == '\n' || b == ';') {
                bad(text, 2, 6);
            } else if (b == '(' || b == ')') {
                bad(text, 2, 5);
            } else if (b >= '0' && b <= '9') {
                shows(text, 0, x -> x.about(11), 1);
            } else if (b > 0 && "<>=+-*/%".indexOf(b) >= 0) {
                shows(text, 0, x -> x.about(11), 2);
            } else {
                bad(text, 1, b >= 'a' && b <= 'z' ? 4 : 5);
            }
        }
    }

    // blanks (32, 10) part them or not
    private void blanks() {
        String whole = "day5;person a at1 open0 to1 chairs2 rest3 price4 coin5;person b at1 open0 to1;debt a to b6;law not(1<2)or owed;";
        check.due("blanks or not: coin", good("day 5;" + whole.substring(5), 2).person(0, 3), 5);
        StringBuilder wide = new StringBuilder();
        for (String token : whole.split("(?<=[;()<])|(?=[;()<])|(?<=[a-z])(?=[0-9])| ")) {
            wide.append(" \n").append(token).append("\n\n  ");
        }
        check.due("blanks around each: coin", good(wide.toString(), 2).person(0, 3), 5);
        good(" ", 0);
        good("\n", 0);
        for (int b : new int[] {9, 11, 12, 13, 31, 33, 160}) {
            bad("day" + (char) b + "5;", 1, 3);
        }
    }

    // each is as long as can be
    private void asLongAsCanBe() {
        bad("dayday 5;", 2, 0);
        bad("da y 5;", 2, 0);
        bad("dayperson", 1, 0);
        bad("law notowed;", 2, 4);
        bad("law not owedor 1;", 2, 8);
        shows("law 12;", 0, x -> x.about(11), 1);
        bad("law 1 2;", 2, 6);
        shows("law not1;", 0, x -> x.about(11), 1);
        shows("law 1 or2;", 0, x -> x.about(11), 2);
        bad("law 1<=2;", 2, 6);
    }

    // no letter directly behind an N
    private void noLetterBehindANumber() {
        bad("law 1or 2;", 1, 4);
        bad("law 1a", 1, 4);
        bad("law 1z", 1, 4);
        bad("law 1234a", 1, 4);
        good("law 1 or 2;", 0);
        good("law 1\nor 2;", 0);
        bad("person a at 1open 0 to 1;", 1, 12);
        bad("person a at 1 open 0to 1;", 1, 19);
        bad("person a1 at 1 open 0 to 1;", 2, 8);
        bad("person 1a at 1 open 0 to 1;", 1, 7);
    }

    // Words that stand for themselves here are no NAMES.
    private void wordsAreNoNames() {
        for (String word : WORDS.split(" ")) {
            bad("person " + word + " at 1 open 0 to 1;", 2, 7);
            bad(AB + "debt " + word + " to b 1;", 2, 57);
            bad(AB + "debt a to " + word + " 1;", 2, 62);
            String shorter = word.substring(0, word.length() - 1);
            good("person " + shorter + " at 1 open 0 to 1;", 1);
            good("person x" + word.substring(1) + " at 1 open 0 to 1;", 1);
            if (word.length() < 8) {
                good("person " + word + "x at 1 open 0 to 1;", 1);
            }
        }
        good("person e at 1 open 0 to 1;person town at 1 open 0 to 1;person line at 1 open 0 to 1;person name at 1 open 0 to 1;"
            + "person unit at 1 open 0 to 1;person both at 1 open 0 to 1;", 6);
        good("person n at 1 open 0 to 1;person one at 1 open 0 to 1;person sum at 1 open 0 to 1;person term at 1 open 0 to 1;"
            + "person blank at 1 open 0 to 1;person hours at 1 open 0 to 1;", 6);
    }

    // town = {line}; each TOKEN of a line where another one stands, and the text's end behind each.
    private void linesAndTheirParts() {
        String[] lines = {"day 5 ;", "person a at 1 open 0 to 1 chairs 1 rest 1 price 1 coin 1 ;", "law ( owed ) ;", "interest not 1 ;", "rain 1 < 2 ;"};
        for (String line : lines) {
            String[] tokens = line.split(" ");
            int at = 0;
            for (int i = 0; i < tokens.length; i++) {
                bad(line.substring(0, at) + (i == 0 ? "= " : "debt ") + line.substring(at), 2, at);
                bad(line.substring(0, at) + "?" + line.substring(at), 1, at);
                String cut = line.substring(0, at);
                if (i > 0) {
                    bad(cut, 2, cut.length());
                    bad(cut.trim(), 2, cut.trim().length());
                }
                at += tokens[i].length() + 1;
            }
            good(line, line.startsWith("person") ? 1 : 0);
        }
        String debt = "debt a to b 1 ;";
        for (int at : new int[] {5, 7, 10, 12, 14}) {
            bad(AB + debt.substring(0, at), 2, 52 + at);
            bad(AB + debt.substring(0, at) + "= " + debt.substring(at), 2, 52 + at);
            bad(AB + debt.substring(0, at) + "?" + debt.substring(at), 1, 52 + at);
        }
        good(AB + debt, 2);
    }

    // A line without one of its TOKENS: the next one can't stand there.
    private void oneTokenLeftOut() {
        String[] lines = {"day 5 ;", "person a at 1 open 0 to 1 chairs 1 rest 1 price 1 coin 1 ;", "debt a to b 1 ;", "law 1 < 2 ;", "interest owed ;", "rain ( 1 ;"};
        for (String line : lines) {
            String ahead = line.startsWith("debt") ? AB : "";
            String[] tokens = line.split(" ");
            int at = 0;
            for (int i = 0; i < tokens.length; i++) {
                int behind = Math.min(line.length(), at + tokens[i].length() + 1);
                String text = ahead + line.substring(0, at) + line.substring(behind);
                if (!tokens[i].equals("(")) {
                    bad(text, 2, ahead.length() + at);
                }
                at = behind;
            }
        }
        good("rain 1 ;", 0);
        String[] shut = {"day ;", "person ;", "person a ;", "person a at ;", "person a at 1 ;", "person a at 1 open ;", "person a at 1 open 0 ;",
            "person a at 1 open 0 to ;", "person a at 1 open 0 to 1 chairs ;", "person a at 1 open 0 to 1 rest ;", "person a at 1 open 0 to 1 price ;",
            "person a at 1 open 0 to 1 coin ;", "law ;", "law ( ;", "law ( owed ;", "law 1 + ;", "interest not ;", "rain 1 < ;", "rain 1 and ;", "rain 1 or ;"};
        for (String line : shut) {
            bad(line, 2, line.length() - 1);
        }
        for (String line : new String[] {"debt ;", "debt a ;", "debt a to ;", "debt a to b ;"}) {
            bad(AB + line, 2, 52 + line.length() - 1);
        }
    }

    // [chairs N] [rest N] [price N] [coin N]: each told or not, none out of its row, none twice.
    private void optionsInTheirOrder() {
        String[] words = {"chairs", "rest", "price", "coin"};
        int[] whats = {7, 8, 9, 3};
        String head = "person a at 1 open 0 to 1";
        for (int told = 0; told < 16; told++) {
            StringBuilder text = new StringBuilder(head);
            for (int i = 0; i < 4; i++) {
                if ((told >> i & 1) != 0) {
                    text.append(' ').append(words[i]).append(' ').append(i + 2);
                }
            }
            WaitingDebts x = good(text + ";", 1);
            for (int i = 0; i < 4; i++) {
                check.due(words[i] + " of " + text, x.person(0, whats[i]), (told >> i & 1) != 0 ? i + 2 : 0);
            }
        }
        for (int later = 0; later < 4; later++) {
            for (int earlier = 0; earlier <= later; earlier++) {
                String ahead = head + " " + words[later] + " 1 ";
                bad(ahead + words[earlier] + " 1;", 2, ahead.length());
            }
        }
    }

    // e = both {or both} ... unit = N | owed | .. | ( e )
    private void formulas() {
        for (String unit : "7 owed date hour wet seat met proxy (1) (1+1) (not1)".split(" ")) {
            good("law " + unit + ";", 0);
            for (String sign : "+ - * / % < > = and or".split(" ")) {
                good("law " + unit + " " + sign + " " + unit + ";", 0);
                good("rain not not " + unit + " " + sign + " 1;", 0);
                bad("law " + unit + " " + sign + " ;", 2, 4 + unit.length() + 1 + sign.length() + 1);
                bad("law " + sign + " " + unit + ";", 2, 4);
                bad("law " + unit + " " + sign + " " + sign + " 1;", 2, 4 + unit.length() + 1 + sign.length() + 1);
            }
        }
        for (String sign : "< > =".split(" ")) {
            bad("law 1" + sign + "2<3;", 2, 7);
            bad("law 1" + sign + "2>3;", 2, 7);
            bad("law 1" + sign + "2=3;", 2, 7);
            good("law (1" + sign + "2)=3;", 0);
            good("law 1" + sign + "2 and 2" + sign + "3;", 0);
            bad("law 1" + sign + "not 2;", 2, 6);
        }
        good("law 1 and not 2 or not 3;", 0);
        bad("law 1+not 2;", 2, 6);
        bad("law 1*not 2;", 2, 6);
        bad("law 1 not 2;", 2, 6);
        bad("law ();", 2, 5);
        bad("law (1;", 2, 6);
        bad("law (1));", 2, 7);
        bad("law day;", 2, 4);
        bad("law a;", 2, 4);
        bad(A + "law a;", 2, 30);
        for (String word : "day person at open to chairs rest price coin debt law interest rain or and".split(" ")) {
            bad("law " + word + ";", 2, 4);
        }
    }

    // day once, ahead of all others; a second time, day behind another line: at the line's first word.
    private void dayOnceAheadOfAll() {
        good("day 5;", 0);
        good("day 5;law 1;", 0);
        bad("day 5;day 5;", 2, 6);
        bad("day 5; \nday", 2, 8);
        bad("day 5;law 1;day 5;", 2, 12);
        bad("law 1;day 5;", 2, 6);
        bad("interest 1;day 5;", 2, 11);
        bad("rain 1;day 5;", 2, 7);
        bad(A + "day 5;", 2, 26);
        bad(AB + "debt a to b 1;day 5;", 2, 66);
        good(A + "law 1;" + "person b at 1 open 0 to 1;rain 1;debt b to a 1;interest 1;", 2);
    }

    // (2 .. 24 HOURS; 10 if it is not told)
    private void hoursOfADay() {
        bad("day 0;", 4, 4);
        bad("day 1;", 4, 4);
        for (int day = 2; day <= 24; day++) {
            int hours = day;
            shows("day " + day + ";", 0, x -> x.about(1), hours);
        }
        bad("day 25;", 4, 4);
        bad("day 9999;", 4, 4);
        shows("", 0, x -> x.about(1), 10);
        shows(A, 1, x -> x.about(1), 10);
        WaitingDebts x = Check.made("day 24;");
        check.due("10 again if it is not told", Check.town(x, A) * 100 + x.about(1), 110);
    }

    // At most 6 PEOPLE, numbered as told.
    private void howManyPeople() {
        for (int n = 0; n <= 6; n++) {
            good(people(n), n);
        }
        bad(people(7), 2, people(6).length());
        bad(people(6) + "law 1; person", 2, people(6).length() + 7);
        bad(people(6) + "person a", 2, people(6).length());
        WaitingDebts x = good("person z at 3 open 0 to 1;person c at 5 open 0 to 1;person m at 4 open 0 to 1;", 3);
        check.due("numbered as told", x.person(0, 4) * 100 + x.person(1, 4) * 10 + x.person(2, 4), 354);
        WaitingDebts y = good(people(6) + "debt f to e 9;", 6);
        check.due("the sixth is number 5", y.owed(5, 4), 9);
        check.due("there is no number 6", y.person(6, 0), -2);
    }

    // their DOOR at a place 0 .. 20
    private void placesOfDoors() {
        for (int place : new int[] {0, 1, 19, 20}) {
            shows("person a at " + place + " open 0 to 1;", 1, x -> x.person(0, 4), place);
            shows("person a at " + place + " open 0 to 1;", 1, x -> x.person(0, 0), place);
        }
        bad("person a at 21 open 0 to 1;", 4, 12);
        bad("person a at 22 open 0 to 1;", 4, 12);
        bad("person a at 9999 open 0 to 1;", 4, 12);
    }

    // open from an HOUR 0 .. one less than a DAY has to a later one, at most as many
    private void hoursOfDoors() {
        for (int day : new int[] {2, 3, 10, 24}) {
            String head = (day == 10 ? "" : "day " + day + ";") + "person a at 1 open ";
            for (int from = 0; from <= day + 1; from++) {
                if (from >= day) {
                    bad(head + from + " to " + (from + 1) + ";", 4, head.length());
                    continue;
                }
                String ahead = head + from + " to ";
                for (int to = 0; to <= day + 1; to++) {
                    if (to <= from || to > day) {
                        bad(ahead + to + ";", 4, ahead.length());
                    } else {
                        WaitingDebts x = good(ahead + to + ";", 1);
                        check.due("from, to", x.person(0, 5) * 100 + x.person(0, 6), from * 100 + to);
                    }
                }
            }
        }
    }

    // chairs 0 .. 9, rest 0 .. one less than a DAY has, price 0 .. 99, coin 0 .. 999: 0 if not told
    private void chairsRestPriceCoin() {
        limit("", "chairs", 7, 9);
        limit("day 2;", "rest", 8, 1);
        limit("day 3;", "rest", 8, 2);
        limit("", "rest", 8, 9);
        limit("day 24;", "rest", 8, 23);
        limit("", "price", 9, 99);
        limit("", "coin", 3, 999);
        WaitingDebts x = good(A, 1);
        check.due("0 if not told", x.person(0, 7) + x.person(0, 8) + x.person(0, 9) + x.person(0, 3), 0);
        Check.town(x, "person a at 1 open 0 to 1 chairs 1 rest 1 price 1 coin 1;");
        Check.town(x, A);
        check.due("0 if not told, whatever was", x.person(0, 7) + x.person(0, 8) + x.person(0, 9) + x.person(0, 3), 0);
    }

    private void limit(String day, String word, int what, int most) {
        String head = day + "person a at 1 open 0 to 1 " + word + " ";
        for (int told : new int[] {0, 1, most - 1, most}) {
            shows(head + told + ";", 1, x -> x.person(0, what), told);
        }
        bad(head + (most + 1) + ";", 4, head.length());
        bad(head + (most + 2) + ";", 4, head.length());
        bad(head + "9999;", 4, head.length());
    }

    // 20 debts
    private void howManyDebts() {
        StringBuilder text = new StringBuilder(people(6));
        for (int i = 0; i < 21; i++) {
            String debt = "debt " + (char) ('a' + i / 5) + " to " + (char) ('a' + (i % 5 + i / 5 + 1) % 6) + " 7;";
            if (i == 20) {
                bad(text + debt, 2, text.length());
                bad(text + "rain 1;debt", 2, text.length() + 7);
                break;
            }
            text.append(debt);
            int debts = i + 1;
            shows(text.toString(), 6, x -> x.about(13), debts);
        }
    }

    // (of two unlike PEOPLE told ahead, each two in this order once)
    private void debtsOfWhom() {
        good(AB + "debt a to b 1;", 2);
        good(AB + "debt a to b 1;debt b to a 1;", 2);
        bad(AB + "debt a to a 1;", 3, 62);
        bad(AB + "debt b to b 1;", 3, 62);
        bad(AB + "debt a to b 1;debt b to a 1;debt b to a 1;", 3, 90);
        bad(AB + "debt a to b 1;debt a to b 2;", 3, 76);
        bad("debt a to b 1;" + AB, 5, 5);
        bad(A + "debt a to b 1;person b at 1 open 0 to 1;", 5, 36);
        bad(A + "debt b to a 1;person b at 1 open 0 to 1;", 5, 31);
        bad(AB + "debt c to d 1;", 5, 57);
        bad(AB + "debt c to c 1;", 5, 57);
        bad(AB + "person a at 1 open 0 to 1;", 3, 59);
        bad(AB + "person b at 1 open 0 to 1;", 3, 59);
        WaitingDebts x = good(AB + "debt b to a 5;", 2);
        check.due("of debts that are not told", x.owed(0, 1), 0);
        check.due("NAMES of another TOWN are forgotten", Check.town(x, A + "debt a to b 1;"), -1);
        check.due("NAMES of another TOWN are forgotten", x.fault(0) * 100 + x.fault(1), 536);
        check.due("debts of another TOWN are forgotten", Check.town(x, AB + "debt a to b 5;") * 10 + x.owed(1, 0), 20);
        Check.town(x, AB);
        check.due("debts of any other TOWN are forgotten", x.about(13), 0);
    }

    // 1 .. 9999 MINUTES
    private void minutes() {
        bad(AB + "debt a to b 0;", 4, 64);
        bad(AB + "debt a to b 0000;", 4, 64);
        for (int owed : new int[] {1, 2, 9998, 9999}) {
            shows(AB + "debt a to b " + owed + ";", 2, x -> x.owed(0, 1), owed);
        }
        bad(AB + "debt a to b 10000;", 1, 64);
    }

    // law, interest, rain once each
    private void lawInterestRainOnce() {
        String[] words = {"law", "interest", "rain"};
        good("law 1;interest 1;rain 1;", 0);
        good("rain 1;interest 1;law 1;", 0);
        for (String word : words) {
            good(word + " 1;", 0);
            bad(word + " 1;" + word + " 1;", 2, word.length() + 3);
            bad("person a at 1 open 0 to 1;" + word + " 0;" + person(1) + word, 2, 26 + word.length() + 3 + 26);
        }
        WaitingDebts x = Check.made("law 1+2;rain 1;");
        Check.town(x, A);
        check.due("the law of another TOWN is forgotten", x.about(11) * 10 + x.about(10), 0);
        check.due("the rain of another TOWN is forgotten", x.wet(0, 0), 0);
    }

    // 30 in one e; a unit too many: at its first TOKEN.
    private void unitsOfOneFormula() {
        for (String word : new String[] {"law", "interest", "rain"}) {
            String head = word + " 1";
            shows(head + times(28, "+1") + ";", 0, x -> x.about(10), 29);
            shows(head + times(29, "+1") + ";", 0, x -> x.about(10), 30);
            bad(head + times(30, "+1") + ";", 2, head.length() + 59);
            bad(head + times(29, "+1") + "+owed;", 2, head.length() + 59);
            bad(head + times(29, "+1") + " or not\n(1);", 2, head.length() + 66);
            shows(head + times(27, "+1") + "+(1);", 0, x -> x.about(10), 30);
            bad(head + times(28, "+1") + "+(1);", 2, head.length() + 58);
            bad(head + times(29, "+1") + "+(1);", 2, head.length() + 59);
        }
        shows("law 1" + times(29, "+1") + ";", 0, x -> x.about(11), 30);
        shows("law owed" + times(29, "+1") + ";", 0, x -> x.about(11), 29);
        shows("law " + times(7, "(") + "1" + times(7, ")") + times(22, "+1") + ";", 0, x -> x.about(10), 30);
        bad("law " + times(7, "(") + "1" + times(7, ")") + times(23, "+1") + ";", 2, 4 + 15 + 45);
    }

    // 80 units in all
    private void unitsInAll() {
        String sixty = "law 1" + times(29, "+1") + ";interest 1" + times(29, "+1") + ";";
        String head = sixty + "rain 1";
        shows(head + times(18, "+1") + ";", 0, x -> x.about(10), 79);
        shows(head + times(19, "+1") + ";", 0, x -> x.about(10), 80);
        bad(head + times(20, "+1") + ";", 2, head.length() + 39);
        shows(head + times(17, "+1") + "+(1);", 0, x -> x.about(10), 80);
        bad(head + times(18, "+1") + "+(1);", 2, head.length() + 38);
        bad(head + times(19, "+1") + "+(1);", 2, head.length() + 39);
        String other = "rain 1" + times(29, "*1") + ";law 1" + times(19, "*1") + ";interest 1";
        shows(other + times(29, "*1") + ";", 0, x -> x.about(10), 80);
        WaitingDebts x = Check.made(head + times(19, "+1") + ";");
        check.due("units of another TOWN do not count", Check.town(x, head + times(19, "+1") + ";") + x.about(10), 80);
    }

    // a unit ( e ), or a one behind not, within 6 others at most; what is within 7: at its first TOKEN, or the not.
    private void withinOthers() {
        good("law " + times(6, "(") + "1" + times(6, ")") + ";", 0);
        good("law " + times(7, "(") + "1" + times(7, ")") + ";", 0);
        bad("law " + times(8, "(") + "1" + times(8, ")") + ";", 2, 11);
        good("law " + times(6, "not ") + "1;", 0);
        good("law " + times(7, "not ") + "1;", 0);
        bad("law " + times(8, "not ") + "1;", 2, 4 + 28);
        good("law " + times(7, "not ") + "1<2;", 0);
        for (int outer = 0; outer <= 7; outer++) {
            int inner = 7 - outer;
            String nots = "law " + times(outer, "not ");
            good(nots + times(inner, "(") + "1" + times(inner, ")") + ";", 0);
            bad(nots + times(inner + 1, "(") + "1" + times(inner + 1, ")") + ";", 2, nots.length() + inner);
            String brackets = "law " + times(outer, "(");
            good(brackets + times(inner, "not ") + "1" + times(outer, ")") + ";", 0);
            bad(brackets + times(inner + 1, "not ") + "1" + times(outer, ")") + ";", 2, brackets.length() + 4 * inner);
        }
        good("law " + times(7, "(") + "1" + times(7, ")") + "+" + times(7, "(") + "1" + times(7, ")") + ";", 0);
        good("law " + times(6, "(") + "(1)+(2)*(3)" + times(6, ")") + ";", 0);
        good("law " + times(7, "not ") + "1 and " + times(7, "not ") + "1 or " + times(7, "not ") + "1;", 0);
        bad("law (1)+" + times(8, "(") + "1", 2, 15);
        bad("law not 1 or " + times(8, "not ") + "1", 2, 13 + 28);
    }

    /** However many TOWNS were told ahead, with FAULTS or without: each is as its own text tells it. */
    private void manyTowns() {
        String full = "day 24;" + people(6) + "debt a to b 1;debt b to c 2;law 1+wet;interest 2;rain 3;";
        String empty = A + "person b at 1 open 0 to 1;debt a to b 100;";
        WaitingDebts x = new WaitingDebts();
        for (int i = 0; i < 4; i++) {
            check.due("a full TOWN", Check.town(x, full) * 100 + x.about(1), 624);
            check.due("its units", x.about(10) * 10 + x.about(11), 41);
            check.due("its debts", x.about(13), 2);
            check.due("its rain", x.wet(0, 0), 1);
            if (i % 2 == 1) {
                check.due("a FAULT", Check.town(x, full + "law"), -1);
            }
            check.due("a TOWN of little", Check.town(x, empty) * 100 + x.about(1), 210);
            check.due("no units", x.about(10) + x.about(11), 0);
            check.due("one debt", x.about(13), 1);
            check.due("no rain", x.wet(0, 0), 0);
            x.aim(0, 1);
            check.due("no law", x.pays(0), 60);
            x.hours(10);
            check.due("no interest", x.owed(0, 1), 40);
        }
        StringBuilder debts = new StringBuilder(people(6));
        for (int i = 0; i < 20; i++) {
            debts.append("debt ").append((char) ('a' + i / 5)).append(" to ").append((char) ('a' + (i % 5 + i / 5 + 1) % 6)).append(" 7;");
        }
        for (int i = 0; i < 3; i++) {
            check.due("20 debts, again and again", Check.town(x, debts.toString()), 6);
        }
    }

    // FAULTS, the first by its place (bytes from 0; the end: the text's length)
    private void theFirstFault() {
        bad("day 1;$", 4, 4);
        bad("day 1", 4, 4);
        bad("day 5;person a at 21 open 9 to 3;", 4, 18);
        bad("person a at 1 open 5 to 3 chairs 10;", 4, 24);
        bad("$day 1;", 1, 0);
        bad(AB + "debt c to a 0;$", 5, 57);
        bad(AB + "debt a to c 0;$", 5, 62);
        bad(AB + "debt a to a 0;$", 3, 62);
        bad(AB + "debt a to a", 3, 62);
        bad(AB + "debt a to b 0;$", 4, 64);
        bad(AB + "debt a to b 1 $", 1, 66);
        bad(AB + "debt a to b 1", 2, 65);
        bad(AB + "debt a to b 1 \n ", 2, 68);
        bad("person a at 1 open 0 to 1;person a at 99;", 3, 33);
        bad("law 1;law $;", 2, 6);
        bad("law 1;law", 2, 6);
        bad(people(6) + "person $", 2, people(6).length());
        bad("law 1+;day 1;", 2, 6);
        bad("day", 2, 3);
        bad(" day ", 2, 5);
        bad("law 1;day$", 2, 6);
        bad("law " + times(7, "(") + "($", 2, 11);
        bad("law " + times(7, "not ") + "not $", 2, 32);
    }

    // at one place the least
    private void theLeastFaultAtOnePlace() {
        bad("law 1" + times(29, "+1") + "+99999;", 1, 64);
        bad("law 1" + times(29, "+1") + "+$;", 1, 64);
        bad("law 1" + times(29, "+1") + "+a;", 2, 64);
        bad(people(6) + "persons a", 2, people(6).length());
        bad(AB + "debt aaaaaaaaa to b 1;", 1, 57);
        bad("person a at 99999 open 0 to 1;", 1, 12);
        bad("day 99999;", 1, 4);
        bad("day 99a;", 1, 4);
        bad(AB + "debt a to rain 1;", 2, 62);
        bad(AB + "person day at 1", 2, 59);
    }
}
