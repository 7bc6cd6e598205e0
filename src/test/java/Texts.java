import java.util.Random;

/** Texts of towns by chance: good ones, and ones that may have a FAULT. */
final class Texts {
    private static final String[] GIVENS = {"owed", "date", "hour", "wet", "seat", "met", "proxy"};
    private static final String[] NAMES = {"a", "b", "cat", "doge", "eve", "fabricio", "gil"};
    private static final int[] EDGES = {0, 1, 2, 3, 5, 9, 10, 11, 20, 21, 23, 24, 25, 99, 100, 101, 999, 1000, 1001, 9999};
    private static final String[] BITS = {";", "(", ")", "<", ">", "=", "+", "-", "*", "/", "%", " ", "\n", "$", "A", "\u00e9", "\u0000",
        "day 5;", "person", "person zed at 3 open 0 to 1;", "a", "b", "at", "open", "to", "chairs", "rest", "price", "coin", "debt", "debt a to b 5;",
        "law", "law 1;", "interest", "rain", "rain 0;", "or", "and", "not", "not not", "owed", "wet", "0", "1", "99", "9999", "12345", "1a",
        "abcdefgh", "abcdefghi", "((", "1+1+1+1+1+1+1+1+1+1"};

    private final Random chance;

    Texts(Random chance) {
        this.chance = chance;
    }

    private boolean oneIn(int n) {
        return chance.nextInt(n) == 0;
    }

    private int from(int low, int high) {
        return low + chance.nextInt(high - low + 1);
    }

    private String gap() {
        return oneIn(12) ? "\n" : oneIn(12) ? "  " : " ";
    }

    String town() {
        StringBuilder text = new StringBuilder();
        int day = 10;
        if (!oneIn(5)) {
            day = oneIn(4) ? from(2, 24) : from(4, 14);
            text.append("day").append(gap()).append(day).append(";");
        }
        int people = oneIn(20) ? 0 : oneIn(20) ? 1 : from(2, 6);
        int wide = oneIn(4) ? 20 : from(0, 5);
        for (int i = 0; i < people; i++) {
            person(text, NAMES[i], day, wide);
        }
        debts(text, people);
        if (!oneIn(4)) {
            text.append("law ").append(law()).append(";");
        }
        if (oneIn(2)) {
            text.append("interest ").append(oneIn(2) ? "owed/" + from(5, 100) : formula(0, from(1, 20))).append(";");
        }
        if (oneIn(2)) {
            text.append("rain").append(gap()).append(oneIn(2) ? "(date+hour)%" + from(1, 4) + "=1" : formula(0, from(1, 20))).append(";");
        }
        return text.toString();
    }

    private void person(StringBuilder text, String name, int day, int wide) {
        int open = oneIn(3) ? 0 : from(0, day - 1);
        int shut = oneIn(3) ? day : from(open + 1, day);
        text.append("person ").append(name).append(gap()).append("at ").append(from(0, wide));
        text.append(" open ").append(open).append(" to").append(gap()).append(shut);
        option(text, "chairs", 9, 2);
        option(text, "rest", oneIn(3) ? day - 1 : Math.min(2, day - 1), 3);
        option(text, "price", oneIn(3) ? 99 : 5, 2);
        option(text, "coin", oneIn(2) ? 999 : 40, 2);
        text.append(oneIn(9) ? " ;\n" : ";");
    }

    private void option(StringBuilder text, String word, int most, int seldom) {
        if (oneIn(seldom)) {
            text.append(" ").append(word).append(oneIn(5) ? "" : " ").append(from(0, most));
        }
    }

    private void debts(StringBuilder text, int people) {
        if (people < 2) {
            return;
        }
        boolean[] told = new boolean[36];
        int debts = from(0, people * (people - 1));
        int most = oneIn(4) ? 9999 : oneIn(2) ? 900 : 200;
        for (int i = 0; i < debts && i < 20; i++) {
            int one = chance.nextInt(people);
            int other = chance.nextInt(people);
            if (one != other && !told[one * 6 + other]) {
                told[one * 6 + other] = true;
                text.append("debt ").append(NAMES[one]).append(" to ").append(NAMES[other]).append(gap());
                text.append(oneIn(3) ? from(1, 5) * 20 : from(1, most)).append(";");
            }
        }
    }

    private String law() {
        if (oneIn(3)) {
            return from(5, 60) + "+wet*" + from(0, 20) + "+seat*" + from(0, 40) + "+met*" + from(0, 60) + "-proxy*" + from(0, 30);
        }
        return oneIn(3) ? "(hour+" + from(1, 20) + ")*(" + formula(0, 8) + ")" : from(1, 90) + "+" + formula(0, from(1, 12));
    }

    /** A formula of about so many units. */
    String formula(int depth, int size) {
        if (size <= 1 || depth > 5) {
            return oneIn(2) ? String.valueOf(oneIn(4) ? from(0, 9999) : from(0, 30)) : GIVENS[chance.nextInt(GIVENS.length)];
        }
        int left = from(1, size - 1);
        String a = formula(depth + 1, left);
        String b = formula(depth + 1, size - left);
        String[] signs = {"+", "-", "*", "/", "%", "<", ">", "=", " and ", " or "};
        String both = a + signs[chance.nextInt(oneIn(2) ? 5 : signs.length)] + b;
        if (oneIn(2)) {
            both = "(" + both + ")";
        } else if (both.indexOf('<') >= 0 || both.indexOf('>') >= 0 || both.indexOf('=') >= 0) {
            both = "(" + both + ")";
        }
        return oneIn(6) ? "(not " + both + ")" : both;
    }

    String broken(String text) {
        return oneIn(2) ? brokenByTokens(text) : brokenByBytes(text);
    }

    /** Lines told again or in another row, NAMES and numbers exchanged for others. */
    private String brokenByTokens(String text) {
        String[] lines = text.split("(?<=;)");
        int line = chance.nextInt(lines.length);
        int other = chance.nextInt(lines.length);
        if (oneIn(3)) {
            return text + lines[line];
        }
        if (oneIn(3)) {
            String kept = lines[line];
            lines[line] = lines[other];
            lines[other] = kept;
            return String.join("", lines);
        }
        String[] tokens = lines[line].split("(?<=[a-z])(?![a-z])|(?<=[0-9])(?![0-9])|(?<=[^a-z0-9])");
        for (int i = 0; i < tokens.length; i++) {
            if (tokens[i].matches("[0-9]+") && oneIn(3)) {
                tokens[i] = String.valueOf(EDGES[chance.nextInt(EDGES.length)]);
            } else if (tokens[i].matches(String.join("|", NAMES)) && oneIn(2)) {
                tokens[i] = NAMES[chance.nextInt(NAMES.length)];
            }
        }
        lines[line] = String.join("", tokens);
        return String.join("", lines);
    }

    private String brokenByBytes(String text) {
        StringBuilder all = new StringBuilder(text);
        for (int i = from(1, 2); i > 0; i--) {
            int at = chance.nextInt(all.length() + 1);
            switch (chance.nextInt(4)) {
                case 0: all.insert(at, BITS[chance.nextInt(BITS.length)]); break;
                case 1: all.delete(at, Math.min(all.length(), at + from(1, 4))); break;
                case 2: if (at < all.length()) { all.setCharAt(at, oneIn(5) ? (char) from(0, 255) : "0159abdt ;(".charAt(chance.nextInt(11))); } break;
                default: all.setLength(at); break;
            }
        }
        return all.toString();
    }
}
