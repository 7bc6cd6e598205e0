/** "Terms" of the document, ==== 2: what is the least, the most, not told, not so in an HOUR, at its edge and beside it. */
public final class HourEdgesTest {
    private static final String MAX_INT = "2147*1000*1000+483*1000+647";

    private final Check check = new Check("HourEdgesTest");

    public static void main(String[] args) {
        HourEdgesTest test = new HourEdgesTest();
        test.atFirst();
        test.restsInTheLastHours();
        test.whoRestsDoesNotWait();
        test.whoRestsDoesNotMeet();
        test.meetAtOnePlaceAsTheHourBegins();
        test.meetWhoseAimsAreOneAnother();
        test.whoMeetsStays();
        test.goesAPlaceNearer();
        test.waitsWhereItIsOpen();
        test.whoWentDoesNotWait();
        test.chairs();
        test.whoCountsForChairs();
        test.leastAndMostOfLaw();
        test.noMoreThanIsOwed();
        test.nothingToTheAimHimself();
        test.owedAsItIsByThen();
        test.wetIfRainIsNotZero();
        test.priceAndCoin();
        test.noPriceIfNothingIsPaid();
        test.coinsByNumber();
        test.duskBehindTheLastHour();
        test.leastAndMostOfInterest();
        test.interestOfWhatIsOwed();
        test.interestByDateOfThatDay();
        test.whatIsNotToldIsZero();
        test.longFormulas();
        test.intsThatWrap();
        test.byZero();
        test.oneOrZero();
        test.check.end();
    }

    private void due(String what, int got, int want) {
        check.due(what, got, want);
    }

    private static int paid(WaitingDebts x, int person, int other, int of) {
        return of - x.owed(person, other);
    }

    // stands at his own DOOR's place, no AIM, THERE FOR himself, DATE 0, HOUR 0 at first
    private void atFirst() {
        WaitingDebts x = Check.made("person a at 7 open 0 to 1;person b at 20 open 0 to 1;");
        for (int p = 0; p < 2; p++) {
            due("place at first", x.person(p, 0), p == 0 ? 7 : 20);
            due("AIM at first", x.person(p, 1), -1);
            due("for whom at first", x.person(p, 2), p);
        }
        due("DATE, HOUR, HOURS at first", x.about(2) + x.about(3) + x.about(4), 0);
    }

    // one RESTS in the last of the DAY's HOURS, as many as his rest
    private void restsInTheLastHours() {
        for (int rest = 0; rest <= 5; rest++) {
            for (int h = 1; h <= 6; h++) {
                WaitingDebts x = Check.made("day 6;person a at 0 open 0 to 6 rest " + rest + ";person b at 9 open 0 to 6;");
                x.aim(0, 1);
                x.hours(h);
                int away = Math.min(h, 6 - rest);
                int want = h == 6 ? 0 : Math.max(0, away - (h - away));
                due("place behind " + h + " HOURS with rest " + rest, x.person(0, 0), want);
            }
        }
    }

    // One WAITS .. if he does not rest
    private void whoRestsDoesNotWait() {
        for (int rest = 0; rest <= 3; rest++) {
            WaitingDebts x = Check.made("day 4;person a at 5 open 0 to 4 rest " + rest + ";person b at 5 open 0 to 4 rest 3;debt a to b 900;law 100;");
            x.aim(0, 1);
            for (int h = 1; h <= 4; h++) {
                x.hours(1);
                due("paid behind " + h + " HOURS with rest " + rest, paid(x, 0, 1, 900), 100 * Math.min(h, 4 - rest));
            }
        }
    }

    // Two who do not (rest) .. MEET
    private void whoRestsDoesNotMeet() {
        for (int rest = 0; rest <= 3; rest++) {
            for (int who = 0; who < 2; who++) {
                String ofA = who == 0 ? " rest " + rest : "";
                String ofB = who == 1 ? " rest " + rest : "";
                WaitingDebts x = Check.made("day 4;person a at 5 open 0 to 4" + ofA + ";person b at 5 open 0 to 4" + ofB
                    + ";debt a to b 900;debt b to a 900;law met*100+1;");
                x.aim(0, 1);
                x.aim(1, 0);
                x.hours(4);
                due("he who rests " + rest, paid(x, who, 1 - who, 900), 101 * (4 - rest));
                due("the other one waits at the DOOR yet", paid(x, 1 - who, who, 900), 101 * (4 - rest) + rest);
            }
        }
    }

    // who stand at one place as the HOUR begins
    private void meetAtOnePlaceAsTheHourBegins() {
        int[] firstHour = {1, -1, 2, -1, 3, -1};
        for (int apart = 0; apart < firstHour.length; apart++) {
            WaitingDebts x = Check.made("day 20;person a at 3 open 0 to 1;person b at " + (3 + apart) + " open 0 to 1;");
            x.aim(0, 1);
            x.aim(1, 0);
            due("meeting of two " + apart + " places apart", x.meeting(0, 1, 20), firstHour[apart]);
            if (firstHour[apart] > 1) {
                due("not in the HOUR in which they come there", x.meeting(0, 1, firstHour[apart] - 1), -1);
            }
        }
    }

    // whose AIMS are one another
    private void meetWhoseAimsAreOneAnother() {
        WaitingDebts x = Check.made("person a at 3 open 0 to 9;person b at 3 open 0 to 9;person c at 3 open 0 to 9;debt a to b 900;law met*100+1;");
        x.aim(0, 1);
        x.hours(1);
        due("the other one has no AIM", paid(x, 0, 1, 900), 1);
        x.aim(1, 2);
        x.aim(2, 0);
        x.hours(1);
        due("AIMS in a ring", paid(x, 0, 1, 900), 2);
        x.aim(1, 0);
        x.hours(1);
        due("AIMS of one another", paid(x, 0, 1, 900), 103);
        due("the third one does not meet", x.meeting(0, 2, 9), -1);
    }

    // MEET; they stay.
    private void whoMeetsStays() {
        WaitingDebts x = Check.made("day 5;person a at 3 open 4 to 5;person b at 7 open 4 to 5;debt a to b 900;law 10;");
        x.aim(0, 1);
        x.aim(1, 0);
        x.hours(4);
        due("they stay where no DOOR is", x.person(0, 0) * 10 + x.person(1, 0), 55);
        due("and wait there, though no DOOR is open", paid(x, 0, 1, 900), 20);
        x.aim(1, -1);
        x.hours(1);
        due("behind DUSK at their own DOORS", x.person(0, 0) * 10 + x.person(1, 0), 37);
        due("who does not meet goes", paid(x, 0, 1, 900), 20);
    }

    // Each other one goes a place nearer to the DOOR of his AIM (his own one, if he has none), if he is not there.
    private void goesAPlaceNearer() {
        WaitingDebts x = Check.made("day 24;person a at 0 open 0 to 24;person b at 20 open 0 to 24;person c at 2 open 0 to 24;");
        x.aim(0, 1);
        x.aim(1, 2);
        for (int h = 1; h <= 22; h++) {
            x.hours(1);
            due("up", x.person(0, 0), Math.min(h, 20));
            due("down", x.person(1, 0), Math.max(20 - h, 2));
            due("no AIM, at home", x.person(2, 0), 2);
        }
        x.aim(0, -1);
        x.hours(1);
        due("home, if he has none", x.person(0, 0), 19);
        x.aim(0, 2);
        x.hours(1);
        due("behind DUSK", x.person(0, 0) * 100 + x.person(1, 0), 20);
    }

    // its DOOR is OPEN in that HOUR (from .. to)
    private void waitsWhereItIsOpen() {
        for (int from = 0; from < 4; from++) {
            for (int to = from + 1; to <= 4; to++) {
                WaitingDebts x = Check.made("day 4;person a at 3 open 0 to 1;person b at 3 open " + from + " to " + to + ";debt a to b 900;law 10;");
                x.aim(0, 1);
                for (int h = 0; h < 4; h++) {
                    due("pays in HOUR " + h + ", open " + from + " to " + to, x.pays(0), h >= from && h < to ? 10 : 0);
                    x.hours(1);
                }
                due("paid in a DAY, open " + from + " to " + to, paid(x, 0, 1, 900), 10 * (to - from));
            }
        }
    }

    // did not go, has an AIM
    private void whoWentDoesNotWait() {
        for (int apart = 0; apart < 4; apart++) {
            WaitingDebts x = Check.made("day 6;person a at " + apart + " open 0 to 6;person b at 0 open 0 to 6;debt a to b 900;law 10;");
            x.hours(1);
            due("without an AIM", paid(x, 0, 1, 900), 0);
            x.aim(0, 1);
            for (int h = 1; h <= 5; h++) {
                x.hours(1);
                due(apart + " places apart, behind " + h + " HOURS", paid(x, 0, 1, 900), 10 * Math.max(0, h - apart));
            }
        }
    }

    // SEATED, if of those who WAIT at that DOOR fewer than it has chairs are ahead of him by number
    private void chairs() {
        for (int door = 0; door < 6; door++) {
            for (int chairs : new int[] {0, 1, 2, 4, 5, 6, 9}) {
                StringBuilder text = new StringBuilder();
                for (int p = 0; p < 6; p++) {
                    text.append("person ").append((char) ('a' + p)).append(" at 3 open 0 to 9 chairs ").append(p == door ? chairs : 9 - chairs).append(";");
                }
                for (int p = 0; p < 6; p++) {
                    if (p != door) {
                        text.append("debt ").append((char) ('a' + p)).append(" to ").append((char) ('a' + door)).append(" 100;");
                    }
                }
                WaitingDebts x = Check.made(text + "law seat*10+1;");
                for (int p = 0; p < 6; p++) {
                    x.aim(p, p == door ? -1 : door);
                }
                x.hours(1);
                int ahead = 0;
                for (int p = 0; p < 6; p++) {
                    if (p != door) {
                        due("seat of " + p + " at " + door + " with " + chairs + " chairs", paid(x, p, door, 100), ahead < chairs ? 11 : 1);
                        ahead++;
                    }
                }
            }
        }
    }

    // of those who WAIT at that DOOR (not meeting)
    private void whoCountsForChairs() {
        WaitingDebts x = Check.made("person a at 2 open 0 to 9;person b at 3 open 0 to 9;person c at 3 open 0 to 9 chairs 1;person d at 3 open 0 to 9 chairs 1;"
            + "debt a to c 100;debt b to c 100;debt c to d 100;debt b to d 100;law seat*10+1;");
        x.aim(0, 2);
        x.aim(1, 2);
        x.hours(1);
        due("who is on his way takes no chair", paid(x, 1, 2, 100), 11);
        x.hours(1);
        due("who comes later is ahead by number", paid(x, 0, 2, 100), 11);
        due("and no chair is left", paid(x, 1, 2, 100), 12);
        x.aim(0, 3);
        x.aim(1, 3);
        x.aim(2, 3);
        x.stand(0, 2);
        x.stand(1, 1);
        x.hours(1);
        due("a chair is taken for another one, too", paid(x, 2, 3, 100), 11 + 1);
        due("the next one has none", paid(x, 1, 3, 100), 1);
        x.aim(0, 2);
        x.aim(3, 2);
        x.aim(2, 3);
        x.hours(1);
        due("who MEETS at that DOOR's place is not ahead", paid(x, 1, 3, 100), 1 + 11);
    }

    // What comes of law (60, if it is not told; 0 at least, 240 at most)
    private void leastAndMostOfLaw() {
        String two = "person a at 3 open 0 to 9;person b at 3 open 0 to 9;debt a to b 900;";
        String[] laws = {"", "law 0-9999;", "law 0-1;", "law 0;", "law 1;", "law 59;", "law 60;", "law 239;", "law 240;", "law 241;", "law 9999;",
            "law " + MAX_INT + ";", "law " + MAX_INT + "+1;", "law 0-1-" + "(" + MAX_INT + ");"};
        int[] want = {60, 0, 0, 0, 1, 59, 60, 239, 240, 240, 240, 240, 0, 0};
        for (int i = 0; i < laws.length; i++) {
            WaitingDebts x = Check.made(two + laws[i]);
            x.aim(0, 1);
            due("pays by " + laws[i], x.pays(0), want[i]);
            x.hours(1);
            due("paid by " + laws[i], paid(x, 0, 1, 900), want[i]);
        }
    }

    // (no more than that)
    private void noMoreThanIsOwed() {
        int[][] owedLeft = {{1, 0}, {59, 0}, {60, 0}, {61, 1}, {62, 2}};
        for (int[] row : owedLeft) {
            WaitingDebts x = Check.made("person a at 3 open 0 to 9;person b at 3 open 0 to 9;debt a to b " + row[0] + ";");
            x.aim(0, 1);
            due("pays of " + row[0], x.pays(0), row[0] - row[1]);
            x.hours(1);
            due("left of " + row[0], x.owed(0, 1), row[1]);
            x.hours(1);
            due("left of it then", x.owed(0, 1), 0);
            x.hours(1);
            due("no less than 0", x.owed(0, 1), 0);
            due("nothing comes to be owed back", x.owed(1, 0), 0);
        }
        for (int owed = 239; owed <= 241; owed++) {
            WaitingDebts x = Check.made("person a at 3 open 0 to 9;person b at 3 open 0 to 9;debt a to b " + owed + ";law 9999;");
            x.aim(0, 1);
            x.hours(1);
            due("left of " + owed, x.owed(0, 1), Math.max(0, owed - 240));
        }
    }

    // (nothing, if that is the AIM himself)
    private void nothingToTheAimHimself() {
        WaitingDebts x = Check.made("person a at 3 open 0 to 9 price 2;person b at 3 open 0 to 9 coin 9;person c at 3 open 0 to 9;debt a to b 900;debt b to c 900;debt b to a 900;");
        x.aim(0, 1);
        x.stand(0, 1);
        due("pays", x.pays(0), 0);
        x.hours(2);
        due("nothing is paid by either", x.owed(0, 1) + x.owed(1, 2) + x.owed(1, 0), 2700);
        due("no price", x.person(0, 3) * 10 + x.person(1, 3), 9);
        x.stand(0, 0);
        x.hours(1);
        due("for himself he pays", x.owed(0, 1), 840);
    }

    // owed is that as it is by then
    private void owedAsItIsByThen() {
        WaitingDebts x = Check.made("person a at 3 open 0 to 9 coin 9;person b at 3 open 0 to 9;person c at 3 open 0 to 9;person d at 3 open 0 to 9;debt a to b 80;law owed/2;");
        x.aim(0, 1);
        x.aim(2, 1);
        x.aim(3, 1);
        x.stand(2, 0);
        x.stand(3, 0);
        due("by the first", x.pays(0), 40);
        due("by the next", x.pays(2), 20);
        due("by the last", x.pays(3), 10);
        x.hours(1);
        due("left", x.owed(0, 1), 10);
    }

    // wet (1, if what comes of rain for date, hour is not 0)
    private void wetIfRainIsNotZero() {
        String two = "day 3;person a at 3 open 0 to 3;person b at 3 open 0 to 3;debt a to b 900;law wet*7+1;";
        String[] rains = {"", "rain 0-1;", "rain 0;", "rain 1;", "rain 2;", "rain 9999;", "rain " + MAX_INT + "+1;"};
        int[] want = {0, 1, 0, 1, 1, 1, 1};
        for (int i = 0; i < rains.length; i++) {
            WaitingDebts x = Check.made(two + rains[i]);
            x.aim(0, 1);
            due("wet by " + rains[i], x.wet(0, 0), want[i]);
            due("pays by " + rains[i], x.pays(0), want[i] * 7 + 1);
        }
        WaitingDebts y = Check.made(two + "rain date*10+hour=12;");
        y.aim(0, 1);
        for (int h = 0; h < 9; h++) {
            due("pays in HOUR " + h, y.pays(0), h == 5 ? 8 : 1);
            due("wet in HOUR " + h, y.wet(h / 3, h % 3), h == 5 ? 1 : 0);
            y.hours(1);
        }
    }

    // A proxy gets his price of him for whom he is there; if that one has not so much coin, nothing is paid.
    private void priceAndCoin() {
        int[][] rows = {{0, 0}, {0, 1}, {1, 0}, {1, 1}, {1, 2}, {5, 4}, {5, 5}, {5, 6}, {99, 98}, {99, 99}, {99, 100}, {99, 999}};
        for (int[] row : rows) {
            boolean isEnough = row[1] >= row[0];
            WaitingDebts x = Check.made("person a at 3 open 0 to 9 coin " + row[1] + ";person b at 3 open 0 to 9;person c at 3 open 0 to 9 price " + row[0]
                + " coin 999;debt a to b 900;");
            x.aim(2, 1);
            x.stand(2, 0);
            String what = " for price " + row[0] + " of coin " + row[1];
            due("pays" + what, x.pays(2), isEnough ? 60 : 0);
            x.hours(1);
            due("paid" + what, paid(x, 0, 1, 900), isEnough ? 60 : 0);
            due("coin of him" + what, x.person(0, 3), isEnough ? row[1] - row[0] : row[1]);
            due("coin of the proxy, above 999 too" + what, x.person(2, 3), isEnough ? 999 + row[0] : 999);
        }
        WaitingDebts y = Check.made("person a at 3 open 0 to 9 coin 7;person b at 3 open 0 to 9;person c at 3 open 0 to 9 price 3;debt a to b 900;");
        y.aim(2, 1);
        y.stand(2, 0);
        y.hours(5);
        due("two HOURS are paid", paid(y, 0, 1, 900), 120);
        due("and a coin is left", y.person(0, 3), 1);
        WaitingDebts z = Check.made("person a at 3 open 0 to 9 price 9;person b at 3 open 0 to 9;debt a to b 900;");
        z.aim(0, 1);
        z.hours(1);
        due("for himself one needs no coin", paid(z, 0, 1, 900), 60);
    }

    // gets his price .., if something is paid
    private void noPriceIfNothingIsPaid() {
        String three = "person a at 3 open 0 to 9 coin 9;person b at 3 open 0 to 9;person c at 3 open 0 to 9 price 3;";
        String[] rest = {"", "debt a to b 900;law 0;", "debt a to b 900;law 0-5;", "debt a to b 900;law 1;", "debt a to b 1;law 5;", "debt b to a 9;", "debt c to b 9;"};
        int[] price = {0, 0, 0, 3, 3, 0, 0};
        for (int i = 0; i < rest.length; i++) {
            WaitingDebts x = Check.made(three + rest[i]);
            x.aim(2, 1);
            x.stand(2, 0);
            x.hours(1);
            due("price by " + rest[i], x.person(2, 3), price[i]);
            due("coin by " + rest[i], x.person(0, 3), 9 - price[i]);
        }
    }

    // Those who WAIT, by number
    private void coinsByNumber() {
        WaitingDebts x = Check.made("person a at 3 open 0 to 9 coin 5;person b at 3 open 0 to 9;person c at 3 open 0 to 9 price 3;person d at 3 open 0 to 9 price 3;debt a to b 900;");
        x.aim(2, 1);
        x.aim(3, 1);
        x.stand(2, 0);
        x.stand(3, 0);
        x.hours(1);
        due("coin for one alone: the first gets it", x.person(2, 3) * 10 + x.person(3, 3), 30);
        due("paid once", paid(x, 0, 1, 900), 60);
        // Who earns his coin as the first one can pay the later one of it in the same HOUR, not the other way round.
        String earns = " at 3 open 0 to 9 price 5;";
        String pays = " at 3 open 0 to 9 coin 5;";
        WaitingDebts y = Check.made("person a" + earns + "person b at 3 open 0 to 9;person c" + pays + "person d" + earns + "debt a to b 900;debt c to b 900;");
        y.aim(0, 1);
        y.stand(0, 2);
        y.aim(3, 1);
        y.stand(3, 0);
        y.hours(1);
        due("earned ahead of it", paid(y, 0, 1, 900), 60);
        WaitingDebts z = Check.made("person a" + earns + "person b at 3 open 0 to 9;person c" + pays + "person d" + earns + "debt d to b 900;debt c to b 900;");
        z.aim(3, 1);
        z.stand(3, 2);
        z.aim(0, 1);
        z.stand(0, 3);
        z.hours(1);
        due("earned behind it", paid(z, 3, 1, 900), 0);
        due("the coin is there then", z.person(3, 3), 5);
        z.stand(3, 3);
        z.aim(3, -1);
        z.hours(1);
        due("the next HOUR", paid(z, 3, 1, 900), 60);
    }

    // behind the last HOUR of the DAY (DUSK) .. all are at their own DOORS, and the next DAY begins
    private void duskBehindTheLastHour() {
        for (int day : new int[] {2, 3, 10, 24}) {
            WaitingDebts x = Check.made("day " + day + ";person a at 0 open 0 to 1;person b at 20 open 0 to 1;person c at 10 open 0 to 1;debt a to b 5;interest 1;");
            x.aim(0, 1);
            x.stand(0, 2);
            x.aim(1, 0);
            x.hours(day - 1);
            due("ahead of DUSK: DATE", x.about(2), 0);
            due("ahead of DUSK: HOUR", x.about(3), day - 1);
            due("ahead of DUSK: place", x.person(0, 0), Math.min(10, day - 1));
            due("ahead of DUSK: owed", x.owed(0, 1), 5);
            x.hours(1);
            due("behind DUSK: DATE", x.about(2), 1);
            due("behind DUSK: HOUR", x.about(3), 0);
            due("behind DUSK: HOURS", x.about(4), day);
            due("behind DUSK: places", x.person(0, 0) * 100 + x.person(1, 0), 20);
            due("behind DUSK: AIM stays", x.person(0, 1), 1);
            due("behind DUSK: for whom stays", x.person(0, 2), 2);
            due("behind DUSK: owed", x.owed(0, 1), 6);
        }
    }

    // interest (0, if it is not told; 0 at least; all 9,999 at most)
    private void leastAndMostOfInterest() {
        String[] interests = {"", "interest 0-9999;", "interest 0-1;", "interest 0;", "interest 1;", "interest 2;", "interest " + MAX_INT + ";", "interest " + MAX_INT + "+1;"};
        int[] more = {0, 0, 0, 0, 1, 2, 9999, 0};
        for (int owed : new int[] {1, 5000, 9997, 9998, 9999}) {
            for (int i = 0; i < interests.length; i++) {
                WaitingDebts x = Check.made("day 2;person a at 0 open 0 to 2;person b at 9 open 0 to 2;debt a to b " + owed + ";" + interests[i]);
                x.hours(2);
                due(owed + " behind DUSK by " + interests[i], x.owed(0, 1), Math.min(9999, owed + more[i]));
            }
        }
    }

    // to each debt of more than 0
    private void interestOfWhatIsOwed() {
        WaitingDebts x = Check.made("day 2;person a at 3 open 0 to 2;person b at 3 open 0 to 2;debt a to b 120;debt b to a 121;interest 10;");
        x.aim(0, 1);
        x.aim(1, 0);
        x.hours(2);
        due("paid in the last HOUR: 0 stays 0", x.owed(0, 1), 0);
        due("1 is left: more comes", x.owed(1, 0), 11);
        due("as many debts", x.about(13), 1);
        WaitingDebts y = Check.made("day 2;person a at 3 open 0 to 2;person b at 3 open 0 to 2;person c at 3 open 0 to 2;debt a to b 100;debt b to c 30;interest owed/10;");
        y.hours(2);
        due("by what is owed of each", y.owed(0, 1) * 1000 + y.owed(1, 2), 110033);
        due("none comes of nothing", y.owed(0, 2) + y.owed(1, 0) + y.owed(2, 0) + y.owed(2, 1), 0);
    }

    // by owed, date of that DAY
    private void interestByDateOfThatDay() {
        WaitingDebts x = Check.made("day 2;person a at 3 open 0 to 2;person b at 3 open 0 to 2;debt a to b 100;interest date*10;");
        int[] want = {100, 100, 100, 100, 110, 110, 130, 130, 160};
        for (int h = 0; h < want.length; h++) {
            due("owed behind " + h + " HOURS", x.owed(0, 1), want[h]);
            x.hours(1);
        }
    }

    // what is not told there is 0: a law is told all, interest owed and date alone, rain date and hour alone
    private void whatIsNotToldIsZero() {
        String[] given = {"owed", "date", "hour", "wet", "seat", "met", "proxy"};
        int[] ofInterest = {1500, 1, 0, 0, 0, 0, 0};
        int[] ofRain = {0, 1, 1, 0, 0, 0, 0};
        int[] ofLaw = {77, 1, 1, 1, 1, 0, 1};
        int[] ofLawOfWhoMeets = {77, 0, 0, 0, 0, 1, 0};
        String street = "day 2;person a at 3 open 0 to 2;person b at 3 open 0 to 2 chairs 1;person c at 3 open 0 to 2;";
        for (int i = 0; i < given.length; i++) {
            WaitingDebts x = Check.made(street + "debt a to b 500;debt b to a 500;debt c to b 500;law 0;rain 1;interest " + given[i] + ";");
            x.aim(0, 1);
            x.aim(1, 0);
            x.aim(2, 1);
            x.stand(2, 0);
            x.hours(4);
            due("interest " + given[i] + " of two DAYS", x.owed(0, 1) - 500, ofInterest[i]);
            WaitingDebts y = Check.made(street + "debt c to b 77;law 1;rain " + given[i] + ";");
            y.aim(2, 1);
            due("rain " + given[i] + " at 1, 1", y.wet(1, 1), ofRain[i]);
            due("rain " + given[i] + " at 0, 0", y.wet(0, 0), 0);
            y.aim(0, 1);
            y.stand(0, 2);
            y.hours(1);
            due("rain " + given[i] + " at 0, 0 behind an HOUR", y.wet(0, 0), 0);
            WaitingDebts z = Check.made(street + "debt c to b 77;rain 1;law " + given[i] + ";");
            z.hours(3);
            z.aim(0, 1);
            z.stand(0, 2);
            due("law " + given[i] + " of a proxy on a chair in HOUR 1 of DATE 1 in rain", z.pays(0), ofLaw[i]);
            WaitingDebts w = Check.made(street + "debt c to b 77;law " + given[i] + ";");
            w.aim(2, 1);
            w.aim(1, 2);
            due("law " + given[i] + " of one who MEETS at first in the dry", w.pays(2), ofLawOfWhoMeets[i]);
        }
    }

    /** The longest formulas, and those whose parts stay open longest, come to what is told. */
    private void longFormulas() {
        String nots = "not ".repeat(7);
        rainIs((nots + "1 or ").repeat(29) + nots + "0", 1);
        rainIs((nots + "1 or ").repeat(29) + nots + "1", 0);
        rainIs((nots + "0 and ").repeat(29) + nots + "0", 1);
        rainIs((nots + "0 and ").repeat(29) + nots + "1", 0);
        rainIs("1" + "+1".repeat(28) + "=29", 1);
        rainIs("1" + "+1".repeat(28) + "=28", 0);
        rainIs("9-(8-(7-(6-(5-(4-(3-(2)))))))=4", 1);
        rainIs("9-(8-(7-(6-(5-(4-(3-(2)))))))=5", 0);
        rainIs("2*(1+2*(1+2*(1+2*(1+2*(1+2*(1))))))=126", 1);
        rainIs("2*(1+2*(1+2*(1+2*(1+2*(1+2*(1))))))=127", 0);
        // A part of each sort is open at each level: what is behind it decides.
        String open = "0 or 1 and 5<3+1*(";
        rainIs(open.repeat(3) + "2" + ")".repeat(3), 0);
        rainIs(open.repeat(3) + "3" + ")".repeat(3), 0);
        rainIs("0 or 1 and 3<3+1*(0 or 1 and 2<2+1*(0 or 1 and 1<1+1*(0 or 1 and 2)))", 1);
        rainIs("0 or 1 and 3<3+1*(0 or 1 and 2<2+1*(0 or 1 and 1<1+1*(0 or 1 and 0)))", 0);
    }

    private void rainIs(String e, int bit) {
        due("rain " + e, Check.made("rain " + e + ";").wet(2, 3), bit);
    }

    private void comesTo(String e, int bit) {
        rainIs(e, bit);
        rainIs("not (" + e + ")", 1 - bit);
    }

    // In e ints, wrapping
    private void intsThatWrap() {
        comesTo(MAX_INT + ">0", 1);
        comesTo(MAX_INT + "+1<0", 1);
        comesTo(MAX_INT + "+1=0-(" + MAX_INT + ")-1", 1);
        comesTo("0-(" + MAX_INT + ")-1<0", 1);
        comesTo("0-(" + MAX_INT + ")-2=" + MAX_INT, 1);
        comesTo("(" + MAX_INT + ")*2=0-2", 1);
        comesTo("(" + MAX_INT + "+1)*2", 0);
        comesTo("(" + MAX_INT + "+1)/(0-1)=" + MAX_INT + "+1", 1);
        comesTo("(" + MAX_INT + "+1)%(0-1)", 0);
        comesTo("(" + MAX_INT + "+1)/(0-1)<0", 1);
        comesTo("256*256*256*256", 0);
        comesTo("256*256*256*128<0", 1);
    }

    // / cut, % its rest, both by 0: 0
    private void byZero() {
        comesTo("7/0", 0);
        comesTo("7%0", 0);
        comesTo("0/0", 0);
        comesTo("0%0", 0);
        comesTo("(0-7)/0", 0);
        comesTo("1+7/(1-1)*9=1", 1);
        comesTo("7/1=7", 1);
        comesTo("7%1", 0);
        comesTo("7/2=3", 1);
        comesTo("(0-7)/2=0-3", 1);
        comesTo("7/(0-2)=0-3", 1);
        comesTo("(0-7)/(0-2)=3", 1);
        comesTo("1/2", 0);
        comesTo("(0-1)/2", 0);
        comesTo("7%2=1", 1);
        comesTo("(0-7)%2=0-1", 1);
        comesTo("7%(0-2)=1", 1);
        comesTo("(0-7)%(0-2)=0-1", 1);
        comesTo("6%2", 0);
    }

    // relations, and, or, not are 1 or 0, of what is not 0
    private void oneOrZero() {
        comesTo("(2<3)=1", 1);
        comesTo("(3<3)", 0);
        comesTo("(4<3)", 0);
        comesTo("(3>2)=1", 1);
        comesTo("(3>3)", 0);
        comesTo("(2>3)", 0);
        comesTo("(3=3)=1", 1);
        comesTo("(3=4)", 0);
        comesTo("(5 and 7)=1", 1);
        comesTo("(0-5 and 7)=1", 1);
        comesTo("(5 and 0)", 0);
        comesTo("(0 and 5)", 0);
        comesTo("(0 and 0)", 0);
        comesTo("(2 and 4)", 1);
        comesTo("(5 or 7)=1", 1);
        comesTo("(0 or 7)=1", 1);
        comesTo("(7 or 0)=1", 1);
        comesTo("(0 or 0-7)=1", 1);
        comesTo("(0 or 0)", 0);
        comesTo("(not 0)=1", 1);
        comesTo("(not 1)", 0);
        comesTo("(not 2)", 0);
        comesTo("(not 0-1)", 0);
        comesTo("(not not 7)=1", 1);
        comesTo("not 1=2", 1);
        comesTo("not 0 and 0", 0);
        comesTo("1 or 0 and 0", 1);
        comesTo("2+3*4=14", 1);
        comesTo("9-4-3=2", 1);
        comesTo("16/4/2=2", 1);
        comesTo("16/(4/2)=8", 1);
        comesTo("1<2 and 2<3", 1);
        comesTo("5-3>1", 1);
    }
}
