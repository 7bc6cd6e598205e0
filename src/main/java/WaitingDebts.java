import java.util.Arrays;

/**
 * Debts that are paid by waiting before the creditor's door.
 * The document of this project says, promise by promise, what each call answers.
 */
public final class WaitingDebts {
    public static final int NONE = -1;
    public static final int GAP = -1000000;

    private static final int CANT_BE = -2;
    private static final int MAX_PEOPLE = 6;
    private static final int MAX_BYTES = 1600;
    private static final int MAX_DAY = 24;
    private static final int LAST_PLACE = 20;
    private static final int MOST_OWED = 9999;
    private static final int LAST_DATE = 999;
    private static final int BOXES = 3;
    private static final int MOST_HOURS_A_CALL = 60;
    private static final int MOST_HOURS = 2000;
    private static final int MOST_HOURS_AHEAD = 200;

    private final byte[] tape = new byte[MAX_BYTES];
    private final Reader reader = new Reader();
    private final State now = new State();
    private final History history = new History();
    private final Clockwork clock = new Clockwork();
    private final Foresight foresight = new Foresight();
    private final Planner planner = new Planner();
    private final Rings ringFinder = new Rings();
    private final Steps steps = new Steps();
    private final int[] boxRows = new int[BOXES * State.SIZE];
    private final boolean[] boxFilled = new boolean[BOXES];
    private final int[] lying = new int[MAX_PEOPLE];
    private Town told = new Town();
    private int tapeLength;
    private int lyingCount;

    /** Nobody is in an empty town, so that nothing of its state has to be set. */
    public WaitingDebts() {
        tapeLength = 0;
        lyingCount = 0;
    }

    public int feed(int a, int b, int c, int d, int e) {
        if (tapeLength + 20 > MAX_BYTES) {
            return NONE;
        }
        putOnTape(a);
        putOnTape(b);
        putOnTape(c);
        putOnTape(d);
        putOnTape(e);
        return tapeLength;
    }

    public int end(int n) {
        if (n < 0 || n > tapeLength) {
            return NONE;
        }
        tapeLength = n;
        return n;
    }

    public int town() {
        boolean isGood = reader.read(tape, tapeLength);
        tapeLength = 0;
        if (!isGood) {
            return NONE;
        }
        told = reader.exchange(told);
        now.begin(told);
        history.begin(now);
        steps.forget();
        lyingCount = 0;
        for (int box = 0; box < BOXES; box++) {
            boxFilled[box] = false;
        }
        return told.people;
    }

    public int fault(int what) {
        if (what == 0) {
            return reader.fault;
        }
        return what == 1 ? reader.faultPlace : NONE;
    }

    public int person(int person, int what) {
        if (!isPerson(person)) {
            return CANT_BE;
        }
        switch (what) {
            case 0: return now.place[person];
            case 1: return now.aim[person];
            case 2: return now.stand[person];
            case 3: return now.coin[person];
            case 4: return told.door[person];
            case 5: return told.from[person];
            case 6: return told.to[person];
            case 7: return told.chairs[person];
            case 8: return told.rest[person];
            case 9: return told.price[person];
            default: return CANT_BE;
        }
    }

    public int owed(int person, int other) {
        return isPair(person, other) ? now.debt[cell(person, other)] : NONE;
    }

    public int sum(int person, boolean isOwed) {
        if (!isPerson(person)) {
            return NONE;
        }
        return isOwed ? now.owedTo(person) : now.owedBy(person);
    }

    public int wet(int date, int hour) {
        if (date < 0 || date > LAST_DATE || hour < 0 || hour >= told.day) {
            return NONE;
        }
        return clock.wetness(told, date, hour);
    }

    public int pays(int person) {
        return isPerson(person) ? foresight.payOfNextHour(told, now, person) : NONE;
    }

    public int aim(int person, int other) {
        if (!isPerson(person) || other != NONE && !isPair(person, other)) {
            return CANT_BE;
        }
        int old = now.aim[person];
        now.aim[person] = other;
        history.add(now);
        return old;
    }

    public int stand(int person, int other) {
        if (!isPerson(person) || !isPerson(other)) {
            return NONE;
        }
        int old = now.stand[person];
        now.stand[person] = other;
        history.add(now);
        return old;
    }

    public int hours(int n) {
        if (n < 0 || n > MOST_HOURS_A_CALL || now.past + n > MOST_HOURS) {
            return NONE;
        }
        for (int i = 0; i < n; i++) {
            clock.pass(told, now);
        }
        history.add(now);
        return now.past;
    }

    public int offset(int person, int other) {
        if (!isPair(person, other)) {
            return NONE;
        }
        int there = cell(person, other);
        int back = cell(other, person);
        int less = Math.min(now.debt[there], now.debt[back]);
        if (less == 0) {
            return NONE;
        }
        now.debt[there] -= less;
        now.debt[back] -= less;
        history.add(now);
        return less;
    }

    public int clear() {
        ringFinder.find(told.people, now.debt);
        if (ringFinder.count == 0) {
            return NONE;
        }
        ringFinder.takeBestFrom(now.debt);
        history.add(now);
        return ringFinder.frees;
    }

    public boolean undo() {
        return history.goBack(now);
    }

    public boolean redo() {
        return history.goForth(now);
    }

    public int will(int person, int other, int n) {
        if (!isPair(person, other) || n < 0 || n > MOST_HOURS_AHEAD) {
            return NONE;
        }
        return foresight.owedBehind(told, now, cell(person, other), n);
    }

    public int when(int person, int other) {
        if (!isPair(person, other)) {
            return CANT_BE;
        }
        return foresight.hoursTillPaid(told, now, cell(person, other));
    }

    public int throng(int person, int n, int what) {
        if (!isPerson(person) || n < 1 || n > MOST_HOURS_AHEAD || !isZeroOrOne(what)) {
            return CANT_BE;
        }
        foresight.findThrong(told, now, person, n);
        return what == 0 ? foresight.found : foresight.foundBy;
    }

    public int meeting(int person, int other, int n) {
        if (!isPair(person, other) || n < 1 || n > MOST_HOURS_AHEAD) {
            return CANT_BE;
        }
        return foresight.hourOfMeeting(told, now, person, other, n);
    }

    public int help(int person, int other, int what) {
        if (!isPair(person, other) || !isZeroOrOne(what)) {
            return CANT_BE;
        }
        foresight.findHelper(told, now, person, other);
        return what == 0 ? foresight.found : foresight.foundBy;
    }

    public int plan(int person) {
        lyingCount = 0;
        if (!isPerson(person)) {
            return NONE;
        }
        int taken = planner.hoursOfBest(told, now, person);
        if (taken != NONE) {
            layDown(planner.best, planner.creditors);
        }
        return taken;
    }

    public int rings() {
        ringFinder.find(told.people, now.debt);
        return ringFinder.count;
    }

    public int ring() {
        ringFinder.find(told.people, now.debt);
        layDown(ringFinder.best, ringFinder.bestLength);
        return ringFinder.frees;
    }

    public int hide(int person, int n, int what) {
        if (!isPerson(person) || n < 1 || n > MOST_HOURS_A_CALL || !isZeroOrOne(what)) {
            return CANT_BE;
        }
        foresight.findHiding(told, now, person, n);
        return what == 0 ? foresight.found : foresight.foundBy;
    }

    public int word(int person, int other, int n) {
        lyingCount = 0;
        if (!isPair(person, other) || n < 1 || n > MOST_HOURS_A_CALL) {
            return NONE;
        }
        int ways = foresight.countWords(told, now, cell(person, other), n);
        if (ways > 0) {
            lying[0] = foresight.found;
            lying[1] = foresight.foundBy;
            lyingCount = 2;
        }
        return ways;
    }

    public int lies(int i) {
        return i >= 0 && i < lyingCount ? lying[i] : GAP;
    }

    public int step(int person, int hour, int place) {
        if (!isPerson(person) || hour < 0 || hour >= told.day || place < 0 || place > LAST_PLACE) {
            return NONE;
        }
        return steps.tell(person, hour, place);
    }

    public boolean untell(int step) {
        return steps.takeBack(step);
    }

    public int later(int by) {
        return steps.goOn(by);
    }

    public int fit(int person, int k) {
        return isPerson(person) ? steps.fittingAims(told, person, k) : NONE;
    }

    public int sham(int k) {
        int bits = 0;
        for (int person = 0; person < told.people; person++) {
            if (steps.fittingAims(told, person, k) == 0) {
                bits |= 1 << person;
            }
        }
        return bits;
    }

    public int ask(int person, int what, int k) {
        if (!isPerson(person) || !isZeroOrOne(what) || !steps.findHourToAsk(told, person, k)) {
            return NONE;
        }
        return what == 0 ? steps.hourToAsk : steps.leftAtMost;
    }

    public int image(int box) {
        if (box < 0 || box >= BOXES) {
            return NONE;
        }
        now.store(boxRows, box * State.SIZE);
        boxFilled[box] = true;
        return now.past;
    }

    public int back(int box) {
        if (box < 0 || box >= BOXES || !boxFilled[box]) {
            return NONE;
        }
        now.load(boxRows, box * State.SIZE);
        history.begin(now);
        return now.past;
    }

    public int about(int what) {
        switch (what) {
            case 0: return told.people;
            case 1: return told.day;
            case 2: return now.date;
            case 3: return now.hour;
            case 4: return now.past;
            case 5: return history.done;
            case 6: return history.kept - history.done;
            case 7: return steps.count;
            case 8: return steps.time;
            case 9: return tapeLength;
            case 10: return told.units;
            case 11: return told.law.numbers;
            case 12: return lyingCount;
            case 13: return now.debtsLeft();
            default: return NONE;
        }
    }

    private void putOnTape(int number) {
        for (int shift = 24; shift >= 0 && tapeLength < MAX_BYTES; shift -= 8) {
            tape[tapeLength] = (byte) (number >>> shift);
            tapeLength++;
        }
    }

    private void layDown(int[] numbers, int count) {
        lyingCount = Math.min(count, lying.length);
        System.arraycopy(numbers, 0, lying, 0, lyingCount);
    }

    private boolean isPerson(int person) {
        return person >= 0 && person < told.people;
    }

    private boolean isPair(int person, int other) {
        return isPerson(person) && isPerson(other) && person != other;
    }

    private static boolean isZeroOrOne(int what) {
        return what == 0 || what == 1;
    }

    /** Where the debt of one to another stands in a row of debts; one to oneself stands there too, and is always 0. */
    private static int cell(int person, int other) {
        return person * MAX_PEOPLE + other;
    }

    /** A whole formula, laid out so that what an operation needs stands ahead of it. */
    private static final class Formula {
        static final int MAX_UNITS = 30;
        static final int OWED = 0;
        static final int DATE = 1;
        static final int HOUR = 2;
        static final int WET = 3;
        static final int SEAT = 4;
        static final int MET = 5;
        static final int PROXY = 6;
        static final int GIVENS = 7;
        // An operation's code is its TOKEN's kind; what is given has one code, and which it is stands as its operand.
        private static final int GIVEN = Tokens.OWED;
        // Units, the operations between them, and up to 7 times "not" ahead of each unit.
        private static final int MAX_LENGTH = 2 * MAX_UNITS + 7 * MAX_UNITS;

        private final int[] operation = new int[MAX_LENGTH];
        private final int[] operand = new int[MAX_LENGTH];
        // What is worked on stands from 1 on; one more stands above it for what is taken away.
        private final int[] stack = new int[MAX_UNITS + 2];
        private final int[] numberAt = new int[MAX_UNITS];
        private int length;
        boolean isTold;
        boolean asksWet;
        int numbers;

        void forget() {
            length = 0;
            isTold = false;
            asksWet = false;
            numbers = 0;
        }

        void addOperation(int sign) {
            if (length < MAX_LENGTH) {
                operation[length] = sign;
                length++;
            }
        }

        void addNumber(int value) {
            if (numbers < MAX_UNITS && length < MAX_LENGTH) {
                numberAt[numbers] = length;
                numbers++;
                operand[length] = value;
                addOperation(Tokens.NUMBER);
            }
        }

        void addGiven(int which) {
            if (which >= 0 && which < GIVENS && length < MAX_LENGTH) {
                asksWet |= which == WET;
                operand[length] = which;
                addOperation(GIVEN);
            }
        }

        int numberTold(int number) {
            return operand[numberAt[number]];
        }

        void tellOtherwise(int number, int value) {
            operand[numberAt[number]] = value;
        }

        int value(int[] given) {
            int top = 0;
            for (int i = 0; i < length; i++) {
                int sign = operation[i];
                if (sign == Tokens.NUMBER || sign == GIVEN) {
                    top++;
                } else if (sign != Tokens.NOT) {
                    top--;
                }
                if (top < 1 || top > MAX_UNITS) {
                    return 0;
                }
                int left = stack[top];
                int right = stack[top + 1];
                switch (sign) {
                    case Tokens.NUMBER: stack[top] = operand[i]; break;
                    case GIVEN: stack[top] = given[operand[i]]; break;
                    case Tokens.NOT: stack[top] = left == 0 ? 1 : 0; break;
                    case Tokens.AND: stack[top] = left != 0 && right != 0 ? 1 : 0; break;
                    case Tokens.OR: stack[top] = left != 0 || right != 0 ? 1 : 0; break;
                    case '<': stack[top] = left < right ? 1 : 0; break;
                    case '>': stack[top] = left > right ? 1 : 0; break;
                    case '=': stack[top] = left == right ? 1 : 0; break;
                    case '+': stack[top] = left + right; break;
                    case '-': stack[top] = left - right; break;
                    case '*': stack[top] = left * right; break;
                    case '/': stack[top] = right == 0 ? 0 : left / right; break;
                    case '%': stack[top] = right == 0 ? 0 : left % right; break;
                    default: return 0;
                }
            }
            return stack[top];
        }
    }

    /** What a text tells of a town; nothing of it changes while HOURS go by. */
    private static final class Town {
        static final int DAY_IF_NOT_TOLD = 10;

        final int[] door = new int[MAX_PEOPLE];
        final int[] from = new int[MAX_PEOPLE];
        final int[] to = new int[MAX_PEOPLE];
        final int[] chairs = new int[MAX_PEOPLE];
        final int[] rest = new int[MAX_PEOPLE];
        final int[] price = new int[MAX_PEOPLE];
        final int[] coin = new int[MAX_PEOPLE];
        final int[] debt = new int[MAX_PEOPLE * MAX_PEOPLE];
        final Formula law = new Formula();
        final Formula interest = new Formula();
        final Formula rain = new Formula();
        int day = DAY_IF_NOT_TOLD;
        int people;
        int debts;
        int units;

        void forget() {
            Arrays.fill(debt, 0);
            law.forget();
            interest.forget();
            rain.forget();
            day = DAY_IF_NOT_TOLD;
            people = 0;
            debts = 0;
            units = 0;
        }

        boolean rests(int person, int hour) {
            return hour >= day - rest[person];
        }

        boolean isOpen(int person, int hour) {
            return hour >= from[person] && hour < to[person];
        }
    }

    /** Parts a text into TOKENS, one at a time. */
    private static final class Tokens {
        static final int END = 0;
        static final int BAD = 1;
        static final int NUMBER = 2;
        static final int NAME = 3;
        // A sign's kind is its byte, and these words' kinds follow the row of WORDS.
        static final int DAY = 100;
        static final int PERSON = 101;
        static final int AT = 102;
        static final int OPEN = 103;
        static final int TO = 104;
        static final int CHAIRS = 105;
        static final int REST = 106;
        static final int PRICE = 107;
        static final int COIN = 108;
        static final int DEBT = 109;
        static final int LAW = 110;
        static final int INTEREST = 111;
        static final int RAIN = 112;
        static final int OR = 113;
        static final int AND = 114;
        static final int NOT = 115;
        static final int OWED = 116;
        private static final String WORDS =
            "day person at open to chairs rest price coin debt law interest rain or and not owed date hour wet seat met proxy ";
        private static final String SIGNS = ";()<>=+-*/%";
        private static final int MAX_LETTERS = 8;
        private static final int MAX_DIGITS = 4;

        private byte[] text = new byte[0];
        private int textLength;
        int kind;
        int start;
        int end;
        int number;

        void begin(byte[] bytes, int length) {
            text = bytes;
            textLength = Math.min(length, bytes.length);
            end = 0;
            next();
        }

        void next() {
            start = textLength;
            for (int i = end; i < textLength; i++) {
                if (text[i] != ' ' && text[i] != '\n') {
                    start = i;
                    break;
                }
            }
            end = start;
            if (start >= textLength) {
                kind = END;
            } else if (isLetter(start)) {
                readLetters();
                kind = end - start > MAX_LETTERS ? BAD : kindOfWord();
            } else if (isDigit(start)) {
                readNumber();
            } else {
                end = start + 1;
                kind = text[start] > 0 && SIGNS.indexOf((char) text[start]) >= 0 ? text[start] : BAD;
            }
        }

        boolean isSameWord(int otherStart, int otherEnd) {
            if (otherEnd - otherStart != end - start) {
                return false;
            }
            for (int i = 0; i < end - start; i++) {
                if (text[start + i] != text[otherStart + i]) {
                    return false;
                }
            }
            return true;
        }

        private void readLetters() {
            for (int i = start; i < textLength && isLetter(i); i++) {
                end = i + 1;
            }
        }

        private void readNumber() {
            number = 0;
            for (int i = start; i < textLength && isDigit(i); i++) {
                number = number * 10 + text[i] - '0';
                end = i + 1;
            }
            boolean isWhole = end - start <= MAX_DIGITS && !(end < textLength && isLetter(end));
            kind = isWhole ? NUMBER : BAD;
        }

        private int kindOfWord() {
            int word = DAY;
            int alike = 0;
            for (int i = 0; i < WORDS.length(); i++) {
                char letter = WORDS.charAt(i);
                if (letter == ' ') {
                    if (alike == end - start) {
                        return word;
                    }
                    word++;
                    alike = 0;
                } else if (alike >= 0 && alike < end - start && text[start + alike] == letter) {
                    alike++;
                } else {
                    alike = NONE;
                }
            }
            return NAME;
        }

        private boolean isLetter(int i) {
            return text[i] >= 'a' && text[i] <= 'z';
        }

        private boolean isDigit(int i) {
            return text[i] >= '0' && text[i] <= '9';
        }
    }

    /** Reads a text into a town, up to its first FAULT. */
    private static final class Reader {
        private static final int NO_TOKEN = 1;
        private static final int OUT_OF_PLACE = 2;
        private static final int TOLD_ALREADY = 3;
        private static final int NO_SUCH_NUMBER = 4;
        private static final int NO_SUCH_NAME = 5;
        private static final int MAX_DEBTS = 20;
        private static final int MAX_UNITS = 80;
        private static final int MAX_WITHIN = 6;

        private final Tokens tokens = new Tokens();
        private final int[] nameStart = new int[MAX_PEOPLE];
        private final int[] nameEnd = new int[MAX_PEOPLE];
        // Two towns take turns, so that one with a FAULT leaves the other as it is.
        private Town town = new Town();
        private int unitsOfFormula;
        int fault;
        int faultPlace = NONE;

        boolean read(byte[] text, int length) {
            fault = 0;
            faultPlace = NONE;
            town.forget();
            tokens.begin(text, length);
            for (int line = 0; line < MAX_BYTES && isGood() && tokens.kind != Tokens.END; line++) {
                switch (tokens.kind) {
                    case Tokens.DAY: readDay(line == 0); break;
                    case Tokens.PERSON: readPerson(); break;
                    case Tokens.DEBT: readDebt(); break;
                    case Tokens.LAW: readFormula(town.law); break;
                    case Tokens.INTEREST: readFormula(town.interest); break;
                    case Tokens.RAIN: readFormula(town.rain); break;
                    default: fail(OUT_OF_PLACE);
                }
                expect(';');
            }
            return isGood();
        }

        /** Gives the town that was read, and takes one to read the next text into. */
        Town exchange(Town old) {
            Town fresh = town;
            town = old;
            return fresh;
        }

        private boolean isGood() {
            return fault == 0;
        }

        private boolean isAt(int kind) {
            return isGood() && tokens.kind == kind;
        }

        /** Only the first FAULT counts; what is no TOKEN is that before all else. */
        private void fail(int what) {
            if (isGood()) {
                fault = tokens.kind == Tokens.BAD ? NO_TOKEN : what;
                faultPlace = tokens.start;
            }
        }

        private void expect(int kind) {
            if (isAt(kind)) {
                tokens.next();
            } else {
                fail(OUT_OF_PLACE);
            }
        }

        private int expectNumber(int least, int most) {
            if (!isAt(Tokens.NUMBER)) {
                fail(OUT_OF_PLACE);
                return 0;
            }
            int number = tokens.number;
            if (number < least || number > most) {
                fail(NO_SUCH_NUMBER);
                return 0;
            }
            tokens.next();
            return number;
        }

        private int numberBehind(int kind, int most) {
            if (!isAt(kind)) {
                return 0;
            }
            tokens.next();
            return expectNumber(0, most);
        }

        private void readDay(boolean isFirst) {
            if (!isFirst) {
                fail(OUT_OF_PLACE);
                return;
            }
            tokens.next();
            town.day = expectNumber(2, MAX_DAY);
        }

        private void readPerson() {
            int person = town.people;
            if (person >= MAX_PEOPLE) {
                fail(OUT_OF_PLACE);
                return;
            }
            tokens.next();
            readNewName(person);
            expect(Tokens.AT);
            town.door[person] = expectNumber(0, LAST_PLACE);
            expect(Tokens.OPEN);
            int from = expectNumber(0, town.day - 1);
            expect(Tokens.TO);
            town.from[person] = from;
            town.to[person] = expectNumber(from + 1, town.day);
            town.chairs[person] = numberBehind(Tokens.CHAIRS, 9);
            town.rest[person] = numberBehind(Tokens.REST, town.day - 1);
            town.price[person] = numberBehind(Tokens.PRICE, 99);
            town.coin[person] = numberBehind(Tokens.COIN, 999);
            town.people++;
        }

        private void readNewName(int person) {
            if (!isAt(Tokens.NAME)) {
                fail(OUT_OF_PLACE);
            } else if (personHere() != NONE) {
                fail(TOLD_ALREADY);
            } else {
                nameStart[person] = tokens.start;
                nameEnd[person] = tokens.end;
                tokens.next();
            }
        }

        private int personHere() {
            for (int person = 0; person < town.people; person++) {
                if (tokens.isSameWord(nameStart[person], nameEnd[person])) {
                    return person;
                }
            }
            return NONE;
        }

        /** The PERSON whose NAME stands here, which stays there to be looked at further. */
        private int knownPersonHere() {
            if (!isAt(Tokens.NAME)) {
                fail(OUT_OF_PLACE);
                return NONE;
            }
            int person = personHere();
            if (person == NONE) {
                fail(NO_SUCH_NAME);
            }
            return person;
        }

        private void readDebt() {
            if (town.debts >= MAX_DEBTS) {
                fail(OUT_OF_PLACE);
                return;
            }
            tokens.next();
            int ower = knownPersonHere();
            expect(Tokens.NAME);
            expect(Tokens.TO);
            int creditor = knownPersonHere();
            if (ower == NONE || creditor == NONE) {
                return;
            }
            if (ower == creditor || town.debt[cell(ower, creditor)] != 0) {
                fail(TOLD_ALREADY);
                return;
            }
            expect(Tokens.NAME);
            town.debt[cell(ower, creditor)] = expectNumber(1, MOST_OWED);
            town.debts++;
        }

        private void readFormula(Formula into) {
            if (into.isTold) {
                fail(OUT_OF_PLACE);
                return;
            }
            into.isTold = true;
            unitsOfFormula = 0;
            tokens.next();
            readWhole(into, 0);
        }

        private void readWhole(Formula into, int within) {
            readBoth(into, within);
            for (int i = 0; i < MAX_BYTES && isAt(Tokens.OR); i++) {
                tokens.next();
                readBoth(into, within);
                into.addOperation(Tokens.OR);
            }
        }

        private void readBoth(Formula into, int within) {
            readOne(into, within);
            for (int i = 0; i < MAX_BYTES && isAt(Tokens.AND); i++) {
                tokens.next();
                readOne(into, within);
                into.addOperation(Tokens.AND);
            }
        }

        private void readOne(Formula into, int within) {
            if (isAt(Tokens.NOT)) {
                if (within > MAX_WITHIN) {
                    fail(OUT_OF_PLACE);
                    return;
                }
                tokens.next();
                readOne(into, within + 1);
                into.addOperation(Tokens.NOT);
                return;
            }
            readSum(into, within);
            if (isAt('<') || isAt('>') || isAt('=')) {
                int sign = tokens.kind;
                tokens.next();
                readSum(into, within);
                into.addOperation(sign);
            }
        }

        private void readSum(Formula into, int within) {
            readTerm(into, within);
            for (int i = 0; i < MAX_BYTES && (isAt('+') || isAt('-')); i++) {
                int sign = tokens.kind;
                tokens.next();
                readTerm(into, within);
                into.addOperation(sign);
            }
        }

        private void readTerm(Formula into, int within) {
            readUnit(into, within);
            for (int i = 0; i < MAX_BYTES && (isAt('*') || isAt('/') || isAt('%')); i++) {
                int sign = tokens.kind;
                tokens.next();
                readUnit(into, within);
                into.addOperation(sign);
            }
        }

        private void readUnit(Formula into, int within) {
            boolean isGiven = isGood() && tokens.kind >= Tokens.OWED && tokens.kind < Tokens.OWED + Formula.GIVENS;
            boolean isUnit = isGiven || isAt(Tokens.NUMBER) || isAt('(') && within <= MAX_WITHIN;
            if (!isUnit || unitsOfFormula >= Formula.MAX_UNITS || town.units >= MAX_UNITS) {
                fail(OUT_OF_PLACE);
                return;
            }
            unitsOfFormula++;
            town.units++;
            if (isAt('(')) {
                tokens.next();
                readWhole(into, within + 1);
                expect(')');
                return;
            }
            if (isGiven) {
                into.addGiven(tokens.kind - Tokens.OWED);
            } else {
                into.addNumber(tokens.number);
            }
            tokens.next();
        }
    }

    /** What moves in a town: the people, their coins and debts, the clock. */
    private static final class State {
        static final int SIZE = 4 * MAX_PEOPLE + MAX_PEOPLE * MAX_PEOPLE + 3;

        final int[] place = new int[MAX_PEOPLE];
        final int[] aim = new int[MAX_PEOPLE];
        final int[] stand = new int[MAX_PEOPLE];
        final int[] coin = new int[MAX_PEOPLE];
        final int[] debt = new int[MAX_PEOPLE * MAX_PEOPLE];
        int date;
        int hour;
        int past;

        void begin(Town town) {
            System.arraycopy(town.door, 0, place, 0, MAX_PEOPLE);
            System.arraycopy(town.coin, 0, coin, 0, MAX_PEOPLE);
            System.arraycopy(town.debt, 0, debt, 0, debt.length);
            for (int person = 0; person < MAX_PEOPLE; person++) {
                aim[person] = NONE;
                stand[person] = person;
            }
            date = 0;
            hour = 0;
            past = 0;
        }

        void copy(State other) {
            System.arraycopy(other.place, 0, place, 0, MAX_PEOPLE);
            System.arraycopy(other.aim, 0, aim, 0, MAX_PEOPLE);
            System.arraycopy(other.stand, 0, stand, 0, MAX_PEOPLE);
            System.arraycopy(other.coin, 0, coin, 0, MAX_PEOPLE);
            System.arraycopy(other.debt, 0, debt, 0, debt.length);
            date = other.date;
            hour = other.hour;
            past = other.past;
        }

        void store(int[] rows, int at) {
            System.arraycopy(place, 0, rows, at, MAX_PEOPLE);
            System.arraycopy(aim, 0, rows, at + MAX_PEOPLE, MAX_PEOPLE);
            System.arraycopy(stand, 0, rows, at + 2 * MAX_PEOPLE, MAX_PEOPLE);
            System.arraycopy(coin, 0, rows, at + 3 * MAX_PEOPLE, MAX_PEOPLE);
            System.arraycopy(debt, 0, rows, at + 4 * MAX_PEOPLE, debt.length);
            rows[at + SIZE - 3] = date;
            rows[at + SIZE - 2] = hour;
            rows[at + SIZE - 1] = past;
        }

        void load(int[] rows, int at) {
            System.arraycopy(rows, at, place, 0, MAX_PEOPLE);
            System.arraycopy(rows, at + MAX_PEOPLE, aim, 0, MAX_PEOPLE);
            System.arraycopy(rows, at + 2 * MAX_PEOPLE, stand, 0, MAX_PEOPLE);
            System.arraycopy(rows, at + 3 * MAX_PEOPLE, coin, 0, MAX_PEOPLE);
            System.arraycopy(rows, at + 4 * MAX_PEOPLE, debt, 0, debt.length);
            date = rows[at + SIZE - 3];
            hour = rows[at + SIZE - 2];
            past = rows[at + SIZE - 1];
        }

        int owedBy(int person) {
            int all = 0;
            for (int other = 0; other < MAX_PEOPLE; other++) {
                all += debt[cell(person, other)];
            }
            return all;
        }

        int owedTo(int person) {
            int all = 0;
            for (int other = 0; other < MAX_PEOPLE; other++) {
                all += debt[cell(other, person)];
            }
            return all;
        }

        int debtsLeft() {
            int left = 0;
            for (int i = 0; i < debt.length; i++) {
                if (debt[i] > 0) {
                    left++;
                }
            }
            return left;
        }
    }

    /** The states behind the ACTS that are kept, with the one ahead of them all. */
    private static final class History {
        private static final int MAX_ACTS = 40;

        private final int[] rows = new int[(MAX_ACTS + 1) * State.SIZE];
        int done;
        int kept;

        void begin(State now) {
            done = 0;
            kept = 0;
            now.store(rows, 0);
        }

        void add(State now) {
            if (done == MAX_ACTS) {
                System.arraycopy(rows, State.SIZE, rows, 0, MAX_ACTS * State.SIZE);
            } else {
                done++;
            }
            kept = done;
            now.store(rows, done * State.SIZE);
        }

        boolean goBack(State now) {
            if (done == 0) {
                return false;
            }
            done--;
            now.load(rows, done * State.SIZE);
            return true;
        }

        boolean goForth(State now) {
            if (done == kept) {
                return false;
            }
            done++;
            now.load(rows, done * State.SIZE);
            return true;
        }
    }

    /** Lets HOURS go by. Who WAITS, MEETS and is SEATED in one stands as bits in its roll. */
    private static final class Clockwork {
        private static final int MEETS = MAX_PEOPLE;
        private static final int SEATED = 2 * MAX_PEOPLE;
        private static final int WET = 3 * MAX_PEOPLE;
        private static final int PAID_IF_NOT_TOLD = 60;
        private static final int MOST_PAID = 240;

        private final int[] given = new int[Formula.GIVENS];
        final int[] crowd = new int[MAX_PEOPLE];
        final int[] paid = new int[MAX_PEOPLE];

        /** An HOUR goes by: its roll. */
        int pass(Town town, State now) {
            int roll = call(town, now);
            settle(town, now, roll);
            turn(town, now);
            return roll;
        }

        static boolean isWaiting(int roll, int person) {
            return (roll >> person & 1) != 0;
        }

        static boolean isMeeting(int roll, int person) {
            return (roll >> MEETS + person & 1) != 0;
        }

        /** All go or stay: the HOUR's roll, which no debt and no coin has a say in. */
        int call(Town town, State now) {
            int roll = meetings(town, now);
            for (int person = 0; person < town.people; person++) {
                if (!isMeeting(roll, person) && staysToWait(town, now, person)) {
                    roll |= 1 << person;
                }
            }
            roll |= seats(town, now, roll);
            if (town.law.asksWet && roll != 0 && wetness(town, now.date, now.hour) != 0) {
                roll |= 1 << WET;
            }
            return roll;
        }

        private int meetings(Town town, State now) {
            int roll = 0;
            for (int person = 0; person < town.people; person++) {
                int aim = now.aim[person];
                if (aim != NONE && now.aim[aim] == person && now.place[aim] == now.place[person]
                        && !town.rests(person, now.hour) && !town.rests(aim, now.hour)) {
                    roll |= 1 << person | 1 << MEETS + person;
                }
            }
            return roll;
        }

        private boolean staysToWait(Town town, State now, int person) {
            int aim = now.aim[person];
            boolean goesHome = aim == NONE || town.rests(person, now.hour);
            int goal = goesHome ? town.door[person] : town.door[aim];
            int here = now.place[person];
            if (here == goal) {
                return !goesHome && town.isOpen(aim, now.hour);
            }
            now.place[person] = here < goal ? here + 1 : here - 1;
            return false;
        }

        private int seats(Town town, State now, int roll) {
            int seats = 0;
            Arrays.fill(crowd, 0);
            for (int person = 0; person < town.people; person++) {
                if (isWaiting(roll, person) && !isMeeting(roll, person)) {
                    int door = now.aim[person];
                    if (crowd[door] < town.chairs[door]) {
                        seats |= 1 << SEATED + person;
                    }
                    crowd[door]++;
                }
            }
            return seats;
        }

        void settle(Town town, State now, int roll) {
            for (int person = 0; person < town.people; person++) {
                paid[person] = isWaiting(roll, person) ? payment(town, now, roll, person) : 0;
            }
        }

        private int payment(Town town, State now, int roll, int person) {
            int ower = now.stand[person];
            int debt = cell(ower, now.aim[person]);
            int owed = now.debt[debt];
            if (owed == 0) {
                return 0;
            }
            int minutes = PAID_IF_NOT_TOLD;
            if (town.law.isTold) {
                given[Formula.OWED] = owed;
                given[Formula.DATE] = now.date;
                given[Formula.HOUR] = now.hour;
                given[Formula.WET] = roll >> WET & 1;
                given[Formula.SEAT] = roll >> SEATED + person & 1;
                given[Formula.MET] = roll >> MEETS + person & 1;
                given[Formula.PROXY] = ower == person ? 0 : 1;
                minutes = Math.max(0, Math.min(MOST_PAID, town.law.value(given)));
            }
            minutes = Math.min(minutes, owed);
            if (minutes > 0 && ower != person && !takesPrice(now, person, ower, town.price[person])) {
                return 0;
            }
            now.debt[debt] = owed - minutes;
            return minutes;
        }

        private boolean takesPrice(State now, int proxy, int ower, int price) {
            if (now.coin[ower] < price) {
                return false;
            }
            now.coin[ower] -= price;
            now.coin[proxy] += price;
            return true;
        }

        void turn(Town town, State now) {
            now.past++;
            now.hour++;
            if (now.hour < town.day) {
                return;
            }
            if (town.interest.isTold) {
                addInterest(town, now);
            }
            System.arraycopy(town.door, 0, now.place, 0, MAX_PEOPLE);
            now.hour = 0;
            now.date++;
        }

        private void addInterest(Town town, State now) {
            Arrays.fill(given, 0);
            given[Formula.DATE] = now.date;
            for (int debt = 0; debt < now.debt.length; debt++) {
                int owed = now.debt[debt];
                if (owed > 0) {
                    given[Formula.OWED] = owed;
                    int more = Math.max(0, town.interest.value(given));
                    now.debt[debt] = more > MOST_OWED - owed ? MOST_OWED : owed + more;
                }
            }
        }

        int wetness(Town town, int date, int hour) {
            Arrays.fill(given, 0);
            given[Formula.DATE] = date;
            given[Formula.HOUR] = hour;
            return town.rain.isTold && town.rain.value(given) != 0 ? 1 : 0;
        }
    }

    /** Looks ahead from what is now, in a state of its own. */
    private static final class Foresight {
        private static final int LAST_WORD = 99;

        private final Clockwork clock = new Clockwork();
        private final State trial = new State();
        private final State start = new State();
        private final int[] rolls = new int[MOST_HOURS_A_CALL];
        /** What the latest search found, and by which HOUR, PERSON or number. */
        int found;
        int foundBy;

        int payOfNextHour(Town town, State now, int person) {
            lookAhead(town, now, 1);
            return clock.paid[person];
        }

        int owedBehind(Town town, State now, int debt, int n) {
            lookAhead(town, now, n);
            return trial.debt[debt];
        }

        private void lookAhead(Town town, State now, int n) {
            trial.copy(now);
            for (int i = 0; i < n; i++) {
                clock.pass(town, trial);
            }
        }

        int hoursTillPaid(Town town, State now, int debt) {
            trial.copy(now);
            return hoursOfTrial(town, debt);
        }

        private int hoursOfTrial(Town town, int debt) {
            for (int hour = 0; hour < MOST_HOURS_AHEAD; hour++) {
                if (trial.debt[debt] == 0) {
                    return hour;
                }
                clock.pass(town, trial);
            }
            return trial.debt[debt] == 0 ? MOST_HOURS_AHEAD : NONE;
        }

        void findThrong(Town town, State now, int person, int n) {
            found = 0;
            foundBy = NONE;
            trial.copy(now);
            for (int hour = 1; hour <= n; hour++) {
                clock.pass(town, trial);
                if (clock.crowd[person] > found) {
                    found = clock.crowd[person];
                    foundBy = hour;
                }
            }
        }

        int hourOfMeeting(Town town, State now, int person, int other, int n) {
            // Nobody's AIM changes ahead, so those who MEET are AIMS of one another now.
            if (now.aim[person] != other || now.aim[other] != person) {
                return NONE;
            }
            trial.copy(now);
            for (int hour = 1; hour <= n; hour++) {
                if (Clockwork.isMeeting(clock.pass(town, trial), person)) {
                    return hour;
                }
            }
            return NONE;
        }

        void findHelper(Town town, State now, int person, int other) {
            found = NONE;
            foundBy = NONE;
            for (int helper = 0; helper < town.people; helper++) {
                if (helper == other) {
                    continue;
                }
                trial.copy(now);
                trial.aim[helper] = other;
                trial.stand[helper] = person;
                int taken = hoursOfTrial(town, cell(person, other));
                if (taken != NONE && (found == NONE || taken < found)) {
                    found = taken;
                    foundBy = helper;
                }
            }
        }

        void findHiding(Town town, State now, int person, int n) {
            int from = town.from[person];
            int to = town.to[person];
            lookAhead(town, now, n);
            found = trial.owedTo(person);
            foundBy = from;
            for (int hour = 0; hour + to - from <= town.day; hour++) {
                town.from[person] = hour;
                town.to[person] = hour + to - from;
                lookAhead(town, now, n);
                if (trial.owedTo(person) > found) {
                    found = trial.owedTo(person);
                    foundBy = hour;
                }
            }
            town.from[person] = from;
            town.to[person] = to;
        }

        int countWords(Town town, State now, int debt, int n) {
            Formula law = town.law;
            int ways = 0;
            keepRolls(town, now, n);
            keepStart(town, now, debt);
            for (int number = 0; number < law.numbers; number++) {
                int told = law.numberTold(number);
                for (int word = 0; word <= LAST_WORD; word++) {
                    law.tellOtherwise(number, word);
                    if (word != told && isFreed(town, debt, n)) {
                        if (ways == 0) {
                            found = number;
                            foundBy = word;
                        }
                        ways++;
                    }
                }
                law.tellOtherwise(number, told);
            }
            return ways;
        }

        /** Who waits where does not hang on the law, so it is found out once for all words. */
        private void keepRolls(Town town, State now, int n) {
            trial.copy(now);
            for (int i = 0; i < n; i++) {
                rolls[i] = clock.call(town, trial);
                clock.turn(town, trial);
            }
        }

        /** Other debts have a say in this one by coins alone; where they have none, they are left out. */
        private void keepStart(Town town, State now, int debt) {
            start.copy(now);
            if (!hangsOnCoins(town, now, debt)) {
                Arrays.fill(start.debt, 0);
                start.debt[debt] = now.debt[debt];
            }
        }

        private boolean hangsOnCoins(Town town, State now, int debt) {
            for (int person = 0; person < town.people; person++) {
                boolean isPaid = now.stand[person] != person && town.price[person] > 0;
                if (isPaid && now.aim[person] != NONE && cell(now.stand[person], now.aim[person]) == debt) {
                    return true;
                }
            }
            return false;
        }

        private boolean isFreed(Town town, int debt, int n) {
            trial.copy(start);
            for (int i = 0; i < n && trial.debt[debt] > 0; i++) {
                if (rolls[i] != 0) {
                    clock.settle(town, trial, rolls[i]);
                }
                clock.turn(town, trial);
            }
            return trial.debt[debt] == 0;
        }
    }

    /** Finds the order in which one pays all he owes soonest. */
    private static final class Planner {
        private static final int MOST_HOURS_OF_PLAN = 300;

        private final Clockwork clock = new Clockwork();
        /** The state behind so many creditors, by how many they are. */
        private final State[] behind = new State[MAX_PEOPLE + 1];
        private final int[] order = new int[MAX_PEOPLE];
        private int person;
        private int soonest;
        final int[] best = new int[MAX_PEOPLE];
        int creditors;

        Planner() {
            for (int i = 0; i < behind.length; i++) {
                behind[i] = new State();
            }
        }

        int hoursOfBest(Town town, State now, int payer) {
            person = payer;
            soonest = MOST_HOURS_OF_PLAN + 1;
            creditors = 0;
            State start = behind[0];
            start.copy(now);
            for (int other = 0; other < town.people; other++) {
                start.aim[other] = NONE;
                if (start.debt[cell(person, other)] > 0) {
                    creditors++;
                }
            }
            start.stand[person] = person;
            tryOrders(town, 0, 0);
            return soonest > MOST_HOURS_OF_PLAN ? NONE : soonest;
        }

        /** Goes through the orders row by row, so that the first of like ones is kept. */
        private void tryOrders(Town town, int paid, int hours) {
            if (paid >= creditors || paid >= MAX_PEOPLE) {
                soonest = hours;
                System.arraycopy(order, 0, best, 0, MAX_PEOPLE);
                return;
            }
            for (int other = 0; other < town.people; other++) {
                if (behind[paid].debt[cell(person, other)] > 0) {
                    order[paid] = other;
                    int then = payOff(town, paid, other, hours);
                    if (then < soonest) {
                        tryOrders(town, paid + 1, then);
                    }
                }
            }
        }

        /** The HOUR behind which the next one is paid, too; one that is not sooner than the best is as good as never. */
        private int payOff(Town town, int paid, int creditor, int hours) {
            State trial = behind[paid + 1];
            trial.copy(behind[paid]);
            trial.aim[person] = creditor;
            for (int hour = hours; hour < soonest; hour++) {
                if (trial.debt[cell(person, creditor)] == 0) {
                    return hour;
                }
                clock.pass(town, trial);
            }
            return soonest;
        }
    }

    /** Finds the RINGS of debts and the BEST of them. */
    private static final class Rings {
        private final int[] row = new int[MAX_PEOPLE];
        private int bestLeast;
        final int[] best = new int[MAX_PEOPLE];
        int bestLength;
        int frees;
        int count;

        void find(int people, int[] debt) {
            bestLeast = 0;
            bestLength = 0;
            frees = 0;
            count = 0;
            for (int first = 0; first < people; first++) {
                row[0] = first;
                goOn(people, debt, 1, MOST_OWED);
            }
        }

        /** A row is closed before it is made longer, so that rows come in their order. */
        private void goOn(int people, int[] debt, int length, int least) {
            int last = row[length - 1];
            int closing = debt[cell(last, row[0])];
            if (closing > 0) {
                keep(length, Math.min(least, closing));
            }
            if (length >= MAX_PEOPLE) {
                return;
            }
            for (int next = row[0] + 1; next < people; next++) {
                int owed = debt[cell(last, next)];
                if (owed > 0 && !isInRow(next, length)) {
                    row[length] = next;
                    goOn(people, debt, length + 1, Math.min(least, owed));
                }
            }
        }

        private boolean isInRow(int person, int length) {
            for (int i = 0; i < length; i++) {
                if (row[i] == person) {
                    return true;
                }
            }
            return false;
        }

        private void keep(int length, int least) {
            count++;
            if (least * length > frees) {
                frees = least * length;
                bestLeast = least;
                bestLength = length;
                System.arraycopy(row, 0, best, 0, length);
            }
        }

        void takeBestFrom(int[] debt) {
            for (int i = 0; i < bestLength; i++) {
                int next = i + 1 < bestLength ? best[i + 1] : best[0];
                debt[cell(best[i], next)] -= bestLeast;
            }
        }
    }

    /** The STEPS that are TOLD, and where AIMS would have brought one on the first DAY. */
    private static final class Steps {
        private static final int MAX_STEPS = 30;
        private static final int MOST_LATER = 1000;
        private static final int LAST_TIME = 100000;

        private final int[] person = new int[MAX_STEPS];
        private final int[] hour = new int[MAX_STEPS];
        private final int[] place = new int[MAX_STEPS];
        private final int[] toldAt = new int[MAX_STEPS];
        private final int[] untoldAt = new int[MAX_STEPS];
        /** Places by AIM and HOUR. */
        private final int[] ways = new int[MAX_PEOPLE * MAX_DAY];
        int count;
        int time;
        int hourToAsk;
        int leftAtMost;

        void forget() {
            count = 0;
        }

        int tell(int who, int when, int where) {
            if (count >= MAX_STEPS) {
                return NONE;
            }
            person[count] = who;
            hour[count] = when;
            place[count] = where;
            toldAt[count] = time;
            untoldAt[count] = NONE;
            count++;
            return count - 1;
        }

        boolean takeBack(int number) {
            if (number < 0 || number >= count || untoldAt[number] != NONE) {
                return false;
            }
            untoldAt[number] = time;
            return true;
        }

        int goOn(int by) {
            if (by < 0 || by > MOST_LATER || time + by > LAST_TIME) {
                return NONE;
            }
            time += by;
            return time;
        }

        int fittingAims(Town town, int who, int k) {
            int bits = 0;
            for (int aim = 0; aim < town.people; aim++) {
                layWay(town, who, aim);
                if (isFitting(who, aim, k)) {
                    bits |= 1 << aim;
                }
            }
            return bits;
        }

        /** Oneself for an AIM stands for none: it leads to one's own DOOR. */
        private void layWay(Town town, int who, int aim) {
            int here = town.door[who];
            for (int h = 0; h < town.day; h++) {
                int goal = town.rests(who, h) ? town.door[who] : town.door[aim];
                if (here != goal) {
                    here += here < goal ? 1 : -1;
                }
                ways[aim * MAX_DAY + h] = here;
            }
        }

        private boolean isFitting(int who, int aim, int k) {
            for (int i = 0; i < count; i++) {
                boolean isKnown = toldAt[i] <= k && (untoldAt[i] == NONE || untoldAt[i] > k);
                if (isKnown && person[i] == who && ways[aim * MAX_DAY + hour[i]] != place[i]) {
                    return false;
                }
            }
            return true;
        }

        boolean findHourToAsk(Town town, int who, int k) {
            int aims = fittingAims(town, who, k);
            hourToAsk = NONE;
            leftAtMost = NONE;
            for (int h = 0; h < town.day && aims != 0; h++) {
                int left = mostAtOnePlace(town.people, aims, h);
                if (hourToAsk == NONE || left < leftAtMost) {
                    hourToAsk = h;
                    leftAtMost = left;
                }
            }
            return aims != 0;
        }

        private int mostAtOnePlace(int people, int aims, int h) {
            int most = 0;
            for (int aim = 0; aim < people; aim++) {
                int alike = 0;
                for (int other = 0; other < people; other++) {
                    if ((aims >> aim & aims >> other & 1) != 0
                            && ways[aim * MAX_DAY + h] == ways[other * MAX_DAY + h]) {
                        alike++;
                    }
                }
                most = Math.max(most, alike);
            }
            return most;
        }
    }
}
