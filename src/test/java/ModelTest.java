import java.nio.charset.StandardCharsets;
import java.util.Random;

/** Runs of chance calls, the same ones each time, whose answers have to be the model's. */
public final class ModelTest {
    private static final int RUNS = 900;
    // An object is used for 512 calls at most; one step of a run takes up to 90 of them.
    private static final int CALLS = 512 - 90;

    private final Check check = new Check("ModelTest");
    private Random chance;
    private WaitingDebts x;
    private Model m;
    private int run;
    private int used;
    private int goodTowns;
    private int badTowns;
    private final int[] faults = new int[6];

    public static void main(String[] args) {
        ModelTest test = new ModelTest();
        for (int run = 1; run <= RUNS && !test.check.hasWrong(); run++) {
            test.run(run);
        }
        test.tellRange();
        test.check.end();
    }

    private void run(int number) {
        run = number;
        used = 0;
        chance = new Random(number * 7919L);
        x = new WaitingDebts();
        m = new Model();
        tellTown(number % 3 == 0);
        for (int i = 0; i < CALLS && used < CALLS && !check.hasWrong(); i++) {
            call();
        }
    }

    private void tellRange() {
        StringBuilder all = new StringBuilder("ModelTest: towns " + goodTowns + " good, " + badTowns + " with FAULTS (");
        for (int i = 1; i <= 5; i++) {
            all.append(i).append(": ").append(faults[i]).append(i < 5 ? ", " : ")");
        }
        System.out.println(all);
    }

    private int upTo(int most) {
        return chance.nextInt(most + 1);
    }

    /** Mostly one of the town, at times one that can't be. */
    private int someone() {
        int people = m.count();
        if (people == 0 || chance.nextInt(40) == 0) {
            return chance.nextInt(9) - 2;
        }
        return chance.nextInt(people);
    }

    private int hoursAhead(int most) {
        int kind = chance.nextInt(30);
        return kind == 0 ? most + 1 : kind == 1 ? 0 : kind == 2 ? -1 : kind == 3 ? most : 1 + upTo(most / 3);
    }

    private int what() {
        return chance.nextInt(30) == 0 ? chance.nextInt(5) - 2 : chance.nextInt(2);
    }

    private void due(String call, int got, int want) {
        used++;
        check.due("run " + run + ": " + call, got, want);
    }

    private void tellTown(boolean isBad) {
        String text = new Texts(chance).town();
        if (isBad) {
            text = new Texts(chance).broken(text);
        }
        byte[] bytes = text.getBytes(StandardCharsets.ISO_8859_1);
        int length = Math.min(bytes.length, 1600);
        due("end", x.end(0), m.end(0));
        for (int i = 0; i < length; i += 20) {
            int[] five = new int[5];
            for (int k = 0; k < 20; k++) {
                five[k / 4] = five[k / 4] << 8 | (i + k < length ? bytes[i + k] & 255 : 0);
            }
            due("feed", x.feed(five[0], five[1], five[2], five[3], five[4]), m.feed(five));
        }
        due("end", x.end(length), m.end(length));
        due("town of " + text, x.town(), m.town());
        due("fault(0) of " + text, x.fault(0), m.fault(0));
        due("fault(1) of " + text, x.fault(1), m.fault(1));
        if (m.fault(0) == 0) {
            goodTowns++;
        } else {
            badTowns++;
            faults[m.fault(0)]++;
        }
    }

    private void call() {
        int kind = chance.nextInt(100);
        if (kind < 40) {
            act();
        } else if (kind < 62) {
            foresee();
        } else if (kind < 80) {
            track();
        } else {
            look();
        }
    }

    private void act() {
        int p = someone();
        int o = someone();
        int n = chance.nextInt(25) == 0 ? chance.nextInt(70) - 4 : chance.nextInt(7);
        switch (chance.nextInt(13)) {
            case 0: case 1: case 2: due("aim", x.aim(p, o), m.aim(p, o)); break;
            case 3: due("aim", x.aim(p, -1), m.aim(p, -1)); break;
            case 4: due("stand", x.stand(p, o), m.stand(p, o)); break;
            case 5: due("stand", x.stand(p, p), m.stand(p, p)); break;
            case 6: case 7: due("hours", x.hours(n), m.hours(n)); break;
            case 8: due("offset", x.offset(p, o), m.offset(p, o)); break;
            case 9: if (chance.nextInt(3) == 0) { due("clear", x.clear(), m.clear()); } break;
            case 10: case 11: due("undo", x.undo() ? 1 : 0, m.undo() ? 1 : 0); break;
            default: due("redo", x.redo() ? 1 : 0, m.redo() ? 1 : 0); break;
        }
    }

    private void foresee() {
        int p = someone();
        int o = someone();
        int what = what();
        int n = hoursAhead(200);
        int few = hoursAhead(60);
        // Those for whom somebody is on his way have more to tell.
        if (m.is(p) && m.now.aim[p] != -1 && chance.nextInt(3) > 0) {
            o = m.now.aim[p];
            p = m.now.stand[p];
        }
        String with = "(" + p + ", " + o + ", n " + n + ", few " + few + ", what " + what + ")";
        switch (chance.nextInt(12)) {
            case 0: case 1: due("will" + with, x.will(p, o, n), m.will(p, o, n)); break;
            case 2: due("when" + with, x.when(p, o), m.when(p, o)); break;
            case 3: case 4: due("throng" + with, x.throng(p, n, what), m.throng(p, n, what)); break;
            case 5: due("meeting" + with, x.meeting(p, o, n), m.meeting(p, o, n)); break;
            case 6: due("help" + with, x.help(p, o, what), m.help(p, o, what)); break;
            case 7: if (chance.nextInt(8) == 0) { due("plan" + with, x.plan(p), m.plan(p)); lies(); } break;
            case 8: due("hide" + with, x.hide(p, few, what), m.hide(p, few, what)); break;
            case 9: if (chance.nextInt(3) == 0) { due("word" + with, x.word(p, o, few), m.word(p, o, few)); lies(); } break;
            case 10: due("rings", x.rings(), m.rings()); break;
            default: due("ring", x.ring(), m.ring()); lies(); break;
        }
    }

    private void lies() {
        for (int i = -1; i < 7; i++) {
            due("lies(" + i + ")", x.lies(i), m.lies(i));
        }
    }

    private void track() {
        int p = someone();
        int what = what();
        int k = m.time + chance.nextInt(7) - 4;
        int hour = chance.nextInt(30) == 0 ? m.told.day : chance.nextInt(m.told.day);
        switch (chance.nextInt(10)) {
            case 0: lastPlace = upTo(21); due("step", x.step(p, hour, lastPlace), m.step(p, hour, lastPlace)); break;
            case 1: case 2: stepOnSomeWay(p, hour); break;
            case 3: case 4: int i = chance.nextInt(m.steps.size() + 2) - 1; due("untell", x.untell(i) ? 1 : 0, m.untell(i) ? 1 : 0); break;
            case 5: int by = chance.nextInt(30) == 0 ? chance.nextInt(1200) - 100 : chance.nextInt(3); due("later", x.later(by), m.later(by)); break;
            case 6: case 7: due("fit", x.fit(p, k), m.fit(p, k)); break;
            case 8: due("sham", x.sham(k), m.sham(k)); break;
            default: due("ask", x.ask(p, what, k), m.ask(p, what, k)); break;
        }
    }

    private int lastPlace;

    private void stepOnSomeWay(int p, int hour) {
        lastPlace = upTo(21);
        if (m.is(p) && hour < m.told.day && chance.nextInt(6) > 0) {
            lastPlace = m.way(p, chance.nextInt(m.count()))[hour];
        }
        due("step", x.step(p, hour, lastPlace), m.step(p, hour, lastPlace));
    }

    private void look() {
        int p = someone();
        int o = someone();
        int box = chance.nextInt(5) - 1;
        switch (chance.nextInt(60)) {
            case 0: tellTown(true); return;
            case 1: if (chance.nextInt(3) == 0) { tellTown(false); } return;
            case 2: case 3: due("image", x.image(box), m.image(box)); return;
            case 4: due("back", x.back(box), m.back(box)); return;
            case 5: int n = chance.nextInt(40) - 2; due("end", x.end(n), m.end(n)); return;
            case 6: case 7: due("feed", x.feed(1, -2, 3, 1 << 31, 5), m.feed(1, -2, 3, 1 << 31, 5)); return;
            default:
        }
        switch (chance.nextInt(7)) {
            case 0: int what = chance.nextInt(12) - 1; due("person(" + what + ")", x.person(p, what), m.person(p, what)); break;
            case 1: due("owed", x.owed(p, o), m.owed(p, o)); break;
            case 2: boolean b = chance.nextBoolean(); due("sum", x.sum(p, b), m.sum(p, b)); break;
            case 3: int d = chance.nextInt(20) == 0 ? chance.nextInt(1100) - 50 : upTo(9); int h = upTo(m.told.day); due("wet", x.wet(d, h), m.wet(d, h)); break;
            case 4: case 5: due("pays", x.pays(p), m.pays(p)); break;
            default: int w = chance.nextInt(16) - 1; due("about(" + w + ")", x.about(w), m.about(w)); break;
        }
    }
}
