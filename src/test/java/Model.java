import java.util.ArrayList;
import java.util.HashMap;
import java.util.List;
import java.util.Map;
import java.util.Set;

/** The document told again as plainly as can be, slow and wasteful, to hold WaitingDebts against. */
final class Model {
    static final int NONE = -1;
    static final int GAP = -1000000;

    static final class Fault extends RuntimeException {
        private static final long serialVersionUID = 1;
        final int kind;
        final int place;

        Fault(int kind, int place) {
            this.kind = kind;
            this.place = place;
        }
    }

    interface Node {
        int eval(Map<String, Integer> given);
    }

    static final class Num implements Node {
        int value;

        Num(int value) {
            this.value = value;
        }

        public int eval(Map<String, Integer> given) {
            return value;
        }
    }

    static final class Person {
        String name;
        int at;
        int from;
        int to;
        int chairs;
        int rest;
        int price;
        int coin;
    }

    static final class Told {
        int day = 10;
        List<Person> people = new ArrayList<>();
        Map<String, Integer> debts = new HashMap<>();
        Node law;
        Node interest;
        Node rain;
        List<Num> numbers = new ArrayList<>();
        int units;
    }

    static final class Token {
        final String text;
        final int at;

        Token(String text, int at) {
            this.text = text;
            this.at = at;
        }

        boolean isWord() {
            return text.matches("[a-z]+");
        }

        boolean isNumber() {
            return text.matches("[0-9]+");
        }
    }

    static final Set<String> WORDS = Set.of("day", "person", "at", "open", "to", "chairs", "rest", "price", "coin",
        "debt", "law", "interest", "rain", "or", "and", "not", "owed", "date", "hour", "wet", "seat", "met", "proxy");
    static final Set<String> GIVENS = Set.of("owed", "date", "hour", "wet", "seat", "met", "proxy");

    /** Reads one text; a FAULT is thrown. */
    static final class Parser {
        final String text;
        int pos;
        Token token;
        final Told told = new Told();
        int units;
        boolean inLaw;

        Parser(String text) {
            this.text = text;
        }

        Told parse() {
            next();
            boolean first = true;
            while (!token.text.isEmpty()) {
                line(first);
                first = false;
            }
            return told;
        }

        /** What is no TOKEN is a FAULT only once it is come to, and that is when it is the next one. */
        void next() {
            while (pos < text.length() && (text.charAt(pos) == ' ' || text.charAt(pos) == '\n')) {
                pos++;
            }
            int at = pos;
            if (pos == text.length()) {
                token = new Token("", at);
                return;
            }
            java.util.regex.Matcher m = java.util.regex.Pattern.compile("[a-z]+|[0-9]+|[;()<>=+\\-*/%]").matcher(text);
            m.region(pos, text.length());
            if (!m.lookingAt()) {
                throw new Fault(1, at);
            }
            String got = m.group();
            pos = m.end();
            if (got.matches("[a-z]{9,}|[0-9]{5,}")) {
                throw new Fault(1, at);
            }
            if (got.matches("[0-9]+") && pos < text.length() && String.valueOf(text.charAt(pos)).matches("[a-z]")) {
                throw new Fault(1, at);
            }
            token = new Token(got, at);
        }

        Fault bad(int kind) {
            return new Fault(kind, token.at);
        }

        boolean take(String want) {
            if (token.text.equals(want)) {
                next();
                return true;
            }
            return false;
        }

        void must(String want) {
            if (!take(want)) {
                throw bad(2);
            }
        }

        int number(int low, int high) {
            if (!token.isNumber()) {
                throw bad(2);
            }
            int n = Integer.parseInt(token.text);
            if (n < low || n > high) {
                throw bad(4);
            }
            next();
            return n;
        }

        int find(String name) {
            for (int i = 0; i < told.people.size(); i++) {
                if (told.people.get(i).name.equals(name)) {
                    return i;
                }
            }
            return NONE;
        }

        String name() {
            if (!token.isWord() || WORDS.contains(token.text)) {
                throw bad(2);
            }
            return token.text;
        }

        void line(boolean first) {
            String word = token.text;
            if (word.equals("day")) {
                if (!first) {
                    throw bad(2);
                }
                next();
                told.day = number(2, 24);
            } else if (word.equals("person")) {
                person();
            } else if (word.equals("debt")) {
                debt();
            } else if (word.equals("law")) {
                if (told.law != null) {
                    throw bad(2);
                }
                inLaw = true;
                told.law = formula();
                inLaw = false;
            } else if (word.equals("interest")) {
                if (told.interest != null) {
                    throw bad(2);
                }
                told.interest = formula();
            } else if (word.equals("rain")) {
                if (told.rain != null) {
                    throw bad(2);
                }
                told.rain = formula();
            } else {
                throw bad(2);
            }
            must(";");
        }

        void person() {
            if (told.people.size() == 6) {
                throw bad(2);
            }
            next();
            Person p = new Person();
            p.name = name();
            if (find(p.name) != NONE) {
                throw bad(3);
            }
            next();
            must("at");
            p.at = number(0, 20);
            must("open");
            p.from = number(0, told.day - 1);
            must("to");
            p.to = number(p.from + 1, told.day);
            p.chairs = take("chairs") ? number(0, 9) : 0;
            p.rest = take("rest") ? number(0, told.day - 1) : 0;
            p.price = take("price") ? number(0, 99) : 0;
            p.coin = take("coin") ? number(0, 999) : 0;
            told.people.add(p);
        }

        void debt() {
            if (told.debts.size() == 20) {
                throw bad(2);
            }
            next();
            int one = find(name());
            if (one == NONE) {
                throw bad(5);
            }
            next();
            must("to");
            int other = find(name());
            if (other == NONE) {
                throw bad(5);
            }
            if (one == other || told.debts.containsKey(one + ":" + other)) {
                throw bad(3);
            }
            next();
            told.debts.put(one + ":" + other, number(1, 9999));
        }

        Node formula() {
            next();
            units = 0;
            return e(0);
        }

        Node e(int within) {
            Node left = both(within);
            while (take("or")) {
                Node a = left;
                Node b = both(within);
                left = g -> {
                    boolean x = a.eval(g) != 0;
                    boolean y = b.eval(g) != 0;
                    return x || y ? 1 : 0;
                };
            }
            return left;
        }

        Node both(int within) {
            Node left = one(within);
            while (take("and")) {
                Node a = left;
                Node b = one(within);
                left = g -> a.eval(g) != 0 && b.eval(g) != 0 ? 1 : 0;
            }
            return left;
        }

        Node one(int within) {
            if (token.text.equals("not")) {
                if (within == 7) {
                    throw bad(2);
                }
                next();
                Node a = one(within + 1);
                return g -> a.eval(g) == 0 ? 1 : 0;
            }
            Node a = sum(within);
            if (take("<")) {
                Node b = sum(within);
                return g -> a.eval(g) < b.eval(g) ? 1 : 0;
            }
            if (take(">")) {
                Node b = sum(within);
                return g -> a.eval(g) > b.eval(g) ? 1 : 0;
            }
            if (take("=")) {
                Node b = sum(within);
                return g -> a.eval(g) == b.eval(g) ? 1 : 0;
            }
            return a;
        }

        Node sum(int within) {
            Node left = term(within);
            while (token.text.equals("+") || token.text.equals("-")) {
                boolean plus = token.text.equals("+");
                next();
                Node a = left;
                Node b = term(within);
                left = g -> plus ? a.eval(g) + b.eval(g) : a.eval(g) - b.eval(g);
            }
            return left;
        }

        Node term(int within) {
            Node left = unit(within);
            while (token.text.equals("*") || token.text.equals("/") || token.text.equals("%")) {
                String sign = token.text;
                next();
                Node a = left;
                Node b = unit(within);
                left = g -> {
                    int x = a.eval(g);
                    int y = b.eval(g);
                    if (sign.equals("*")) {
                        return x * y;
                    }
                    if (y == 0) {
                        return 0;
                    }
                    return sign.equals("/") ? x / y : x % y;
                };
            }
            return left;
        }

        Node unit(int within) {
            if (units == 30 || told.units == 80) {
                throw bad(2);
            }
            units++;
            told.units++;
            Token t = token;
            if (t.isNumber()) {
                next();
                Num num = new Num(Integer.parseInt(t.text));
                if (inLaw) {
                    told.numbers.add(num);
                }
                return num;
            }
            if (GIVENS.contains(t.text)) {
                next();
                return g -> g.getOrDefault(t.text, 0);
            }
            if (t.text.equals("(")) {
                if (within == 7) {
                    throw bad(2);
                }
                next();
                Node inner = e(within + 1);
                must(")");
                return inner;
            }
            throw bad(2);
        }
    }

    static final class State {
        int[] place;
        int[] aim;
        int[] stand;
        int[] coin;
        int[][] debt;
        int past;

        State copy() {
            State s = new State();
            s.place = place.clone();
            s.aim = aim.clone();
            s.stand = stand.clone();
            s.coin = coin.clone();
            s.debt = new int[debt.length][];
            for (int i = 0; i < debt.length; i++) {
                s.debt[i] = debt[i].clone();
            }
            s.past = past;
            return s;
        }
    }

    /** What one HOUR saw. */
    static final class Seen {
        boolean[] waits;
        boolean[] meets;
        int[] door;
        int[] paid;
    }

    static final class Step {
        int person;
        int hour;
        int place;
        int told;
        Integer untold;
    }

    final StringBuilder tape = new StringBuilder();
    Told told = new Told();
    State now;
    int fault;
    int faultPlace = NONE;
    List<State> undone = new ArrayList<>();
    List<State> redone = new ArrayList<>();
    List<Integer> lying = new ArrayList<>();
    List<Step> steps = new ArrayList<>();
    State[] boxes = new State[3];
    int time;

    Model() {
        now = fresh(told);
    }

    static State fresh(Told t) {
        int n = t.people.size();
        State s = new State();
        s.place = new int[n];
        s.aim = new int[n];
        s.stand = new int[n];
        s.coin = new int[n];
        s.debt = new int[n][n];
        for (int i = 0; i < n; i++) {
            s.place[i] = t.people.get(i).at;
            s.aim[i] = NONE;
            s.stand[i] = i;
            s.coin[i] = t.people.get(i).coin;
            for (int j = 0; j < n; j++) {
                s.debt[i][j] = t.debts.getOrDefault(i + ":" + j, 0);
            }
        }
        return s;
    }

    int count() {
        return told.people.size();
    }

    boolean is(int p) {
        return p >= 0 && p < count();
    }

    boolean are(int a, int b) {
        return is(a) && is(b) && a != b;
    }

    int rain(int date, int hour) {
        return told.rain != null && told.rain.eval(Map.of("date", date, "hour", hour)) != 0 ? 1 : 0;
    }

    boolean rests(int p, int hour) {
        return told.day - hour <= told.people.get(p).rest;
    }

    Seen pass(State s) {
        int n = count();
        int hour = s.past % told.day;
        int date = s.past / told.day;
        Seen seen = new Seen();
        seen.waits = new boolean[n];
        seen.meets = new boolean[n];
        seen.paid = new int[n];
        boolean[] went = new boolean[n];
        for (int i = 0; i < n; i++) {
            for (int j = 0; j < n; j++) {
                if (i != j && s.aim[i] == j && s.aim[j] == i && s.place[i] == s.place[j] && !rests(i, hour) && !rests(j, hour)) {
                    seen.meets[i] = true;
                }
            }
        }
        for (int i = 0; i < n; i++) {
            if (!seen.meets[i]) {
                int goal = told.people.get(s.aim[i] == NONE || rests(i, hour) ? i : s.aim[i]).at;
                went[i] = goal != s.place[i];
                s.place[i] += Integer.signum(goal - s.place[i]);
            }
        }
        for (int i = 0; i < n; i++) {
            boolean open = s.aim[i] != NONE && told.people.get(s.aim[i]).from <= hour && hour < told.people.get(s.aim[i]).to;
            seen.waits[i] = seen.meets[i] || !rests(i, hour) && !went[i] && open;
        }
        for (int i = 0; i < n; i++) {
            if (seen.waits[i]) {
                seen.paid[i] = pay(s, seen, i, date, hour);
            }
        }
        seen.door = s.aim.clone();
        s.past++;
        if (s.past % told.day == 0) {
            dusk(s, date);
        }
        return seen;
    }

    int pay(State s, Seen seen, int i, int date, int hour) {
        int aim = s.aim[i];
        int who = s.stand[i];
        int ahead = 0;
        for (int j = 0; j < i; j++) {
            if (seen.waits[j] && !seen.meets[j] && s.aim[j] == aim) {
                ahead++;
            }
        }
        if (who == aim) {
            return 0;
        }
        int minutes = 60;
        if (told.law != null) {
            Map<String, Integer> given = new HashMap<>();
            given.put("owed", s.debt[who][aim]);
            given.put("date", date);
            given.put("hour", hour);
            given.put("wet", rain(date, hour));
            given.put("seat", !seen.meets[i] && ahead < told.people.get(aim).chairs ? 1 : 0);
            given.put("met", seen.meets[i] ? 1 : 0);
            given.put("proxy", who != i ? 1 : 0);
            minutes = told.law.eval(given);
        }
        minutes = Math.min(240, Math.max(0, minutes));
        minutes = Math.min(minutes, s.debt[who][aim]);
        if (who != i && minutes > 0) {
            int price = told.people.get(i).price;
            if (s.coin[who] < price) {
                return 0;
            }
            s.coin[who] -= price;
            s.coin[i] += price;
        }
        s.debt[who][aim] -= minutes;
        return minutes;
    }

    void dusk(State s, int date) {
        for (int i = 0; i < count(); i++) {
            s.place[i] = told.people.get(i).at;
            for (int j = 0; j < count(); j++) {
                if (s.debt[i][j] > 0 && told.interest != null) {
                    long more = Math.max(0, told.interest.eval(Map.of("owed", s.debt[i][j], "date", date)));
                    s.debt[i][j] = (int) Math.min(9999L, s.debt[i][j] + more);
                }
            }
        }
    }

    void act(State before) {
        undone.add(before);
        redone.clear();
        if (undone.size() > 40) {
            undone.remove(0);
        }
    }

    int feed(int... numbers) {
        if (tape.length() + 20 > 1600) {
            return NONE;
        }
        for (int number : numbers) {
            for (int shift = 24; shift >= 0; shift -= 8) {
                tape.append((char) (number >> shift & 255));
            }
        }
        return tape.length();
    }

    int end(int n) {
        if (n < 0 || n > tape.length()) {
            return NONE;
        }
        tape.setLength(n);
        return n;
    }

    int town() {
        String text = tape.toString();
        tape.setLength(0);
        try {
            told = new Parser(text).parse();
        } catch (Fault f) {
            fault = f.kind;
            faultPlace = f.place;
            return NONE;
        }
        fault = 0;
        faultPlace = NONE;
        now = fresh(told);
        undone.clear();
        redone.clear();
        lying.clear();
        steps.clear();
        boxes = new State[3];
        return count();
    }

    int fault(int what) {
        return what == 0 ? fault : what == 1 ? faultPlace : NONE;
    }

    int person(int p, int what) {
        if (!is(p) || what < 0 || what > 9) {
            return -2;
        }
        Person x = told.people.get(p);
        int[] all = {now.place[p], now.aim[p], now.stand[p], now.coin[p], x.at, x.from, x.to, x.chairs, x.rest, x.price};
        return all[what];
    }

    int owed(int p, int o) {
        return are(p, o) ? now.debt[p][o] : NONE;
    }

    int sum(int p, boolean isOwed) {
        return is(p) ? sumOf(now, p, isOwed) : NONE;
    }

    int sumOf(State s, int p, boolean isOwed) {
        int all = 0;
        for (int i = 0; i < count(); i++) {
            all += isOwed ? s.debt[i][p] : s.debt[p][i];
        }
        return all;
    }

    int wet(int date, int hour) {
        return date < 0 || date > 999 || hour < 0 || hour >= told.day ? NONE : rain(date, hour);
    }

    int pays(int p) {
        return is(p) ? pass(now.copy()).paid[p] : NONE;
    }

    int aim(int p, int o) {
        if (!is(p) || o != NONE && !are(p, o)) {
            return -2;
        }
        act(now.copy());
        int old = now.aim[p];
        now.aim[p] = o;
        return old;
    }

    int stand(int p, int o) {
        if (!is(p) || !is(o)) {
            return NONE;
        }
        act(now.copy());
        int old = now.stand[p];
        now.stand[p] = o;
        return old;
    }

    int hours(int n) {
        if (n < 0 || n > 60 || now.past + n > 2000) {
            return NONE;
        }
        act(now.copy());
        for (int i = 0; i < n; i++) {
            pass(now);
        }
        return now.past;
    }

    int offset(int p, int o) {
        if (!are(p, o) || now.debt[p][o] == 0 || now.debt[o][p] == 0) {
            return NONE;
        }
        act(now.copy());
        int less = Math.min(now.debt[p][o], now.debt[o][p]);
        now.debt[p][o] -= less;
        now.debt[o][p] -= less;
        return less;
    }

    /** All RINGS, each as a row, in the order of rows. */
    List<List<Integer>> allRings() {
        List<List<Integer>> all = new ArrayList<>();
        for (List<Integer> row : arrangements(count())) {
            boolean ring = row.size() >= 2;
            for (int i = 0; ring && i < row.size(); i++) {
                ring = row.get(i) >= row.get(0) && now.debt[row.get(i)][row.get((i + 1) % row.size())] > 0;
            }
            if (ring) {
                all.add(row);
            }
        }
        all.sort(Model::compareRows);
        return all;
    }

    static int compareRows(List<Integer> a, List<Integer> b) {
        for (int i = 0; i < Math.min(a.size(), b.size()); i++) {
            if (!a.get(i).equals(b.get(i))) {
                return a.get(i) - b.get(i);
            }
        }
        return a.size() - b.size();
    }

    /** All rows of unlike numbers below n. */
    static List<List<Integer>> arrangements(int n) {
        List<List<Integer>> all = new ArrayList<>();
        all.add(new ArrayList<>());
        for (int i = 0; i < all.size(); i++) {
            for (int next = 0; next < n; next++) {
                if (!all.get(i).contains(next)) {
                    List<Integer> longer = new ArrayList<>(all.get(i));
                    longer.add(next);
                    all.add(longer);
                }
            }
        }
        return all;
    }

    int leastOf(List<Integer> row) {
        int least = Integer.MAX_VALUE;
        for (int i = 0; i < row.size(); i++) {
            least = Math.min(least, now.debt[row.get(i)][row.get((i + 1) % row.size())]);
        }
        return least;
    }

    List<Integer> bestRing() {
        List<Integer> best = List.of();
        for (List<Integer> row : allRings()) {
            if (best.isEmpty() || leastOf(row) * row.size() > leastOf(best) * best.size()) {
                best = row;
            }
        }
        return best;
    }

    int rings() {
        return allRings().size();
    }

    int ring() {
        List<Integer> best = bestRing();
        lying = new ArrayList<>(best);
        return best.isEmpty() ? 0 : leastOf(best) * best.size();
    }

    int clear() {
        List<Integer> best = bestRing();
        if (best.isEmpty()) {
            return NONE;
        }
        int least = leastOf(best);
        act(now.copy());
        for (int i = 0; i < best.size(); i++) {
            now.debt[best.get(i)][best.get((i + 1) % best.size())] -= least;
        }
        return least * best.size();
    }

    boolean undo() {
        if (undone.isEmpty()) {
            return false;
        }
        redone.add(now.copy());
        now = undone.remove(undone.size() - 1);
        return true;
    }

    boolean redo() {
        if (redone.isEmpty()) {
            return false;
        }
        undone.add(now.copy());
        now = redone.remove(redone.size() - 1);
        return true;
    }

    int will(int p, int o, int n) {
        if (!are(p, o) || n < 0 || n > 200) {
            return NONE;
        }
        State s = now.copy();
        for (int i = 0; i < n; i++) {
            pass(s);
        }
        return s.debt[p][o];
    }

    int paidAt(State s, int p, int o, int most) {
        for (int h = 0; h <= most; h++) {
            if (s.debt[p][o] == 0) {
                return h;
            }
            pass(s);
        }
        return NONE;
    }

    int when(int p, int o) {
        return are(p, o) ? paidAt(now.copy(), p, o, 200) : -2;
    }

    int throng(int p, int n, int what) {
        if (!is(p) || n < 1 || n > 200 || what < 0 || what > 1) {
            return -2;
        }
        State s = now.copy();
        int most = 0;
        int at = NONE;
        for (int h = 1; h <= n; h++) {
            Seen seen = pass(s);
            int there = 0;
            for (int i = 0; i < count(); i++) {
                there += seen.waits[i] && !seen.meets[i] && seen.door[i] == p ? 1 : 0;
            }
            if (there > most) {
                most = there;
                at = h;
            }
        }
        return what == 0 ? most : at;
    }

    int meeting(int p, int o, int n) {
        if (!are(p, o) || n < 1 || n > 200) {
            return -2;
        }
        State s = now.copy();
        for (int h = 1; h <= n; h++) {
            Seen seen = pass(s);
            if (seen.meets[p] && seen.meets[o] && seen.door[p] == o) {
                return h;
            }
        }
        return NONE;
    }

    int help(int p, int o, int what) {
        if (!are(p, o) || what < 0 || what > 1) {
            return -2;
        }
        int best = NONE;
        int who = NONE;
        for (int q = 0; q < count(); q++) {
            if (q != o) {
                State s = now.copy();
                s.aim[q] = o;
                s.stand[q] = p;
                int h = paidAt(s, p, o, 200);
                if (h != NONE && (best == NONE || h < best)) {
                    best = h;
                    who = q;
                }
            }
        }
        return what == 0 ? best : who;
    }

    int plan(int p) {
        lying.clear();
        if (!is(p)) {
            return NONE;
        }
        List<Integer> creditors = new ArrayList<>();
        for (int i = 0; i < count(); i++) {
            if (now.debt[p][i] > 0) {
                creditors.add(i);
            }
        }
        int best = NONE;
        List<List<Integer>> orders = arrangements(count());
        orders.removeIf(row -> row.size() != creditors.size() || !row.containsAll(creditors));
        orders.sort(Model::compareRows);
        for (List<Integer> order : orders) {
            int taken = takes(p, order);
            if (taken != NONE && (best == NONE || taken < best)) {
                best = taken;
                lying = new ArrayList<>(order);
            }
        }
        return best;
    }

    int takes(int p, List<Integer> order) {
        State s = now.copy();
        java.util.Arrays.fill(s.aim, NONE);
        s.stand[p] = p;
        for (int h = 0; h <= 300; h++) {
            s.aim[p] = NONE;
            for (int i = order.size() - 1; i >= 0; i--) {
                if (s.debt[p][order.get(i)] > 0) {
                    s.aim[p] = order.get(i);
                }
            }
            if (s.aim[p] == NONE) {
                return h;
            }
            pass(s);
        }
        return NONE;
    }

    int hide(int p, int n, int what) {
        if (!is(p) || n < 1 || n > 60 || what < 0 || what > 1) {
            return -2;
        }
        Person x = told.people.get(p);
        int from = x.from;
        int to = x.to;
        List<Integer> froms = new ArrayList<>(List.of(from));
        for (int h = 0; h + (to - from) <= told.day; h++) {
            froms.add(h);
        }
        int best = NONE;
        int by = NONE;
        for (int h : froms) {
            x.from = h;
            x.to = h + to - from;
            State s = now.copy();
            for (int i = 0; i < n; i++) {
                pass(s);
            }
            if (sumOf(s, p, true) > best) {
                best = sumOf(s, p, true);
                by = h;
            }
        }
        x.from = from;
        x.to = to;
        return what == 0 ? best : by;
    }

    int word(int p, int o, int n) {
        lying.clear();
        if (!are(p, o) || n < 1 || n > 60) {
            return NONE;
        }
        int ways = 0;
        for (int k = 0; k < told.numbers.size(); k++) {
            Num num = told.numbers.get(k);
            int old = num.value;
            for (int v = 0; v <= 99; v++) {
                num.value = v;
                if (v != old && will(p, o, n) == 0) {
                    ways++;
                    if (ways == 1) {
                        lying.add(k);
                        lying.add(v);
                    }
                }
            }
            num.value = old;
        }
        return ways;
    }

    int lies(int i) {
        return i >= 0 && i < lying.size() ? lying.get(i) : GAP;
    }

    int step(int p, int hour, int place) {
        if (!is(p) || hour < 0 || hour >= told.day || place < 0 || place > 20 || steps.size() == 30) {
            return NONE;
        }
        Step s = new Step();
        s.person = p;
        s.hour = hour;
        s.place = place;
        s.told = time;
        steps.add(s);
        return steps.size() - 1;
    }

    boolean untell(int i) {
        if (i < 0 || i >= steps.size() || steps.get(i).untold != null) {
            return false;
        }
        steps.get(i).untold = time;
        return true;
    }

    int later(int by) {
        if (by < 0 || by > 1000 || time + by > 100000) {
            return NONE;
        }
        time += by;
        return time;
    }

    /** Where the AIM (oneself: none) brings one, by HOUR. */
    int[] way(int p, int aim) {
        State s = fresh(told);
        s.aim[p] = aim == p ? NONE : aim;
        int[] places = new int[told.day];
        for (int h = 0; h < told.day; h++) {
            int at = s.place[p];
            int goal = told.people.get(s.aim[p] == NONE || rests(p, h) ? p : s.aim[p]).at;
            s.place[p] = at + Integer.signum(goal - at);
            places[h] = s.place[p];
        }
        return places;
    }

    int fit(int p, int k) {
        if (!is(p)) {
            return NONE;
        }
        int bits = 0;
        for (int a = 0; a < count(); a++) {
            boolean fits = true;
            for (Step s : steps) {
                boolean known = s.told <= k && !(s.untold != null && s.untold <= k);
                if (known && s.person == p && way(p, a)[s.hour] != s.place) {
                    fits = false;
                }
            }
            bits |= fits ? 1 << a : 0;
        }
        return bits;
    }

    int sham(int k) {
        int bits = 0;
        for (int p = 0; p < count(); p++) {
            bits |= fit(p, k) == 0 ? 1 << p : 0;
        }
        return bits;
    }

    int ask(int p, int what, int k) {
        if (!is(p) || what < 0 || what > 1 || fit(p, k) == 0) {
            return NONE;
        }
        int bits = fit(p, k);
        int best = 99;
        int at = NONE;
        for (int h = 0; h < told.day; h++) {
            Map<Integer, Integer> left = new HashMap<>();
            for (int a = 0; a < count(); a++) {
                if ((bits >> a & 1) == 1) {
                    left.merge(way(p, a)[h], 1, Integer::sum);
                }
            }
            int most = java.util.Collections.max(left.values());
            if (most < best) {
                best = most;
                at = h;
            }
        }
        return what == 0 ? at : best;
    }

    int image(int box) {
        if (box < 0 || box > 2) {
            return NONE;
        }
        boxes[box] = now.copy();
        return now.past;
    }

    int back(int box) {
        if (box < 0 || box > 2 || boxes[box] == null) {
            return NONE;
        }
        now = boxes[box].copy();
        undone.clear();
        redone.clear();
        return now.past;
    }

    int about(int what) {
        int debts = 0;
        for (int[] row : now.debt) {
            for (int d : row) {
                debts += d > 0 ? 1 : 0;
            }
        }
        int[] all = {count(), told.day, now.past / told.day, now.past % told.day, now.past, undone.size(), redone.size(),
            steps.size(), time, tape.length(), told.units, told.numbers.size(), lying.size(), debts};
        return what >= 0 && what < all.length ? all[what] : NONE;
    }
}
