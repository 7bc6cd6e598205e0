import java.util.ArrayList;
import java.util.List;

/** All that calls show of an object, as rows of text, so that two objects can be held against one another. It takes some 350 calls. */
final class Shown {
    static final String NOTHING_UNLIKE = "nothing is unlike";

    private final WaitingDebts x;
    private final List<String> rows = new ArrayList<>();

    private Shown(WaitingDebts x) {
        this.x = x;
    }

    /** What is seen without doing anything comes first, then what ACTS, BOXES and the TAPE hold, which is used up by it. */
    static List<String> of(WaitingDebts x) {
        Shown shown = new Shown(x);
        shown.row("fault", x.fault(0), x.fault(1));
        shown.row("lies", x.lies(0), x.lies(1), x.lies(2), x.lies(3));
        shown.abouts();
        shown.people();
        shown.moving("now");
        shown.known();
        shown.acts();
        for (int box = 0; box < 3; box++) {
            shown.row("back(" + box + ")", x.back(box));
            shown.moving("of BOX " + box);
        }
        shown.row("the TAPE is told", x.town(), x.fault(0), x.fault(1), x.about(1));
        return shown.rows;
    }

    static String firstUnlike(List<String> one, List<String> other) {
        for (int i = 0; i < Math.max(one.size(), other.size()); i++) {
            String a = i < one.size() ? one.get(i) : "no row";
            String b = i < other.size() ? other.get(i) : "no row";
            if (!a.equals(b)) {
                return a + " is unlike " + b;
            }
        }
        return NOTHING_UNLIKE;
    }

    private void row(String what, int... answers) {
        StringBuilder row = new StringBuilder(what).append(":");
        for (int answer : answers) {
            row.append(' ').append(answer);
        }
        rows.add(row.toString());
    }

    private void abouts() {
        for (int what = 0; what < 14; what++) {
            row("about(" + what + ")", x.about(what));
        }
    }

    private void people() {
        for (int p = 0; p < x.about(0); p++) {
            for (int what = 4; what < 10; what++) {
                row("person(" + p + ", " + what + ")", x.person(p, what));
            }
        }
    }

    private void moving(String when) {
        row("the clock " + when, x.about(2), x.about(3), x.about(4));
        for (int p = 0; p < x.about(0); p++) {
            row("PERSON " + p + " " + when, x.person(p, 0), x.person(p, 1), x.person(p, 2), x.person(p, 3), x.sum(p, true), x.sum(p, false));
        }
    }

    private void known() {
        row("sham", x.sham(0), x.sham(5), x.sham(7), x.sham(8));
        for (int p = 0; p < x.about(0); p++) {
            row("fit of " + p, x.fit(p, 0), x.fit(p, 5), x.fit(p, 7), x.fit(p, 8));
        }
        row("pays", x.pays(0), x.pays(1), x.pays(2));
        row("wet", x.wet(0, 3), x.wet(0, 1));
        row("will", x.will(0, 1, 9), x.will(1, 0, 9), x.will(2, 1, 9));
    }

    private void acts() {
        for (int i = 0; i < 9 && x.undo(); i++) {
            moving("behind " + (i + 1) + " times undo");
        }
        for (int i = 0; i < 9 && x.redo(); i++) {
            moving("behind " + (i + 1) + " times redo");
        }
    }
}
