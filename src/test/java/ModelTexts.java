import java.util.ArrayList;
import java.util.List;
import java.util.function.IntPredicate;
import java.util.regex.Matcher;
import java.util.regex.Pattern;

/** Reads the TAPE for a Model: what it read, or the first FAULT, thrown. */
final class ModelTexts {
    private static final Pattern TOKEN = Pattern.compile("[A-Za-z]+|[0-9]+|[^ \n]");

    /** What THE LAW may ask of a PERSON, told by its KEYWORD. */
    interface Facts {
        int of(String word);
    }

    interface Sum {
        int of(Facts facts);
    }

    interface Condition {
        boolean of(Facts facts);
    }

    record Line(String word, Sum sum, Condition when) {
    }

    record Work(int person, int hours, int worth, int dust, int wax, int after) {
    }

    record Rule(IntPredicate holds, int parts) {
    }

    static final class Fault extends RuntimeException {
        private static final long serialVersionUID = 1;
        final int what;
        final int place;

        Fault(int what, int place) {
            super("fault " + what + " at " + place);
            this.what = what;
            this.place = place;
        }
    }

    private final List<String> tokens = new ArrayList<>();
    private final List<Integer> places = new ArrayList<>();
    private final int people;
    private int at = 0;
    private int parts = 0;

    ModelTexts(String tape, int people) {
        this.people = people;
        Matcher m = TOKEN.matcher(tape);
        while (m.find()) {
            tokens.add(m.group());
            places.add(m.start());
        }
        tokens.add("");
        places.add(tape.length());
    }

    private String token() {
        return tokens.get(at);
    }

    private boolean ended() {
        return token().isEmpty();
    }

    private Fault fault(int what) {
        return new Fault(what, places.get(at));
    }

    private void need(String wanted) {
        if (ended() || !token().equals(wanted)) {
            throw fault(1);
        }
        at++;
    }

    private boolean skips(String wanted) {
        boolean is = token().equals(wanted);
        at += is ? 1 : 0;
        return is;
    }

    private int number(int least, int greatest) {
        if (!token().matches("[0-9]{1,4}")) {
            throw fault(1);
        }
        int v = Integer.parseInt(token());
        if (v < least || v > greatest) {
            throw fault(2);
        }
        at++;
        return v;
    }

    List<Line> law() {
        List<Line> lines = new ArrayList<>();
        while (!ended()) {
            String word = token();
            if (!word.matches("weight|wear|notice")) {
                throw fault(1);
            }
            if (lines.size() == 16) {
                throw fault(3);
            }
            at++;
            Sum sum = sum();
            Condition when = skips("when") ? any(0) : null;
            need(";");
            lines.add(new Line(word, sum, when));
        }
        return lines;
    }

    private Condition any(int open) {
        Condition all = all(open);
        while (skips("or")) {
            Condition left = all;
            Condition right = all(open);
            all = facts -> left.of(facts) || right.of(facts);
        }
        return all;
    }

    private Condition all(int open) {
        Condition all = one(open);
        while (skips("and")) {
            Condition left = all;
            Condition right = one(open);
            all = facts -> left.of(facts) && right.of(facts);
        }
        return all;
    }

    private Condition one(int open) {
        if (token().equals("(") || token().equals("not")) {
            if (open == 8) {
                throw fault(3);
            }
            if (skips("not")) {
                Condition inner = one(open + 1);
                return facts -> !inner.of(facts);
            }
            need("(");
            Condition inner = any(open + 1);
            need(")");
            return inner;
        }
        Sum left = sum();
        String sign = token();
        if (!sign.matches("[<=>]")) {
            throw fault(1);
        }
        at++;
        Sum right = sum();
        switch (sign) {
            case "<":
                return facts -> left.of(facts) < right.of(facts);
            case "=":
                return facts -> left.of(facts) == right.of(facts);
            default:
                return facts -> left.of(facts) > right.of(facts);
        }
    }

    private Sum sum() {
        Sum all = term();
        while (token().equals("+") || token().equals("-")) {
            int sign = skips("+") ? 1 : -1;
            at += sign < 0 ? 1 : 0;
            Sum left = all;
            Sum right = term();
            all = facts -> left.of(facts) + sign * right.of(facts);
        }
        return all;
    }

    private Sum term() {
        Sum all = unit();
        while (token().equals("*") || token().equals("/")) {
            Sum left = all;
            if (skips("*")) {
                Sum right = unit();
                all = facts -> left.of(facts) * right.of(facts);
            } else {
                at++;
                int by = number(1, 9999);
                all = facts -> left.of(facts) / by;
            }
        }
        return all;
    }

    private Sum unit() {
        String word = token();
        if (word.matches("person|age|need|had|since|worn|year|ties|used")) {
            at++;
            return facts -> facts.of(word);
        }
        int v = number(0, 9999);
        return facts -> v;
    }

    /** Whom each one names, or -1. */
    int[] voices() {
        int[] names = {-1, -1, -1, -1, -1, -1, -1, -1, -1, -1};
        while (!ended()) {
            int who = number(0, people - 1);
            at--;
            if (names[who] >= 0) {
                throw fault(2);
            }
            at++;
            need("names");
            int whom = number(0, people - 1);
            at--;
            if (whom == who) {
                throw fault(2);
            }
            at++;
            need(";");
            names[who] = whom;
        }
        return names;
    }

    List<Work> works() {
        List<Work> works = new ArrayList<>();
        while (!ended()) {
            if (works.size() == 12 && token().equals("work")) {
                throw fault(3);
            }
            need("work");
            int person = number(0, people - 1);
            need("for");
            int hours = number(1, 24);
            need("worth");
            int worth = number(0, 99);
            need("dust");
            int dust = number(0, 9);
            need("wax");
            int wax = number(0, 9);
            int after = -1;
            if (skips("after")) {
                after = number(0, works.size() - 1);
                at--;
                if (works.get(after).person() != person) {
                    throw fault(2);
                }
                at++;
            }
            need(";");
            works.add(new Work(person, hours, worth, dust, wax, after));
        }
        return works;
    }

    Rule council() {
        IntPredicate holds = ended() ? set -> true : anyPart(0);
        if (!ended()) {
            throw fault(1);
        }
        return new Rule(holds, parts);
    }

    private IntPredicate anyPart(int open) {
        IntPredicate all = allParts(open);
        while (skips("or")) {
            all = all.or(allParts(open));
        }
        return all;
    }

    private IntPredicate allParts(int open) {
        IntPredicate all = onePart(open);
        while (skips("and")) {
            all = all.and(onePart(open));
        }
        return all;
    }

    private IntPredicate onePart(int open) {
        if (token().equals("(")) {
            if (open == 8) {
                throw fault(3);
            }
            at++;
            IntPredicate inner = anyPart(open + 1);
            need(")");
            return inner;
        }
        boolean most = skips("most");
        int n = most ? number(1, 10) : number(0, people - 1);
        parts++;
        return most ? set -> Integer.bitCount(set) >= n : set -> (set & 1 << n) != 0;
    }
}
