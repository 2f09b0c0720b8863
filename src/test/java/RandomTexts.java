import java.util.Random;

/** TEXTS by chance: mostly such as can be told, some at their bounds, some a little beyond, some broken. */
final class RandomTexts {
    private static final String[] FACTS = {"person", "age", "need", "had", "since", "worn", "year", "ties", "used"};
    private static final String[] PIECES = {"(", ")", ";", "not ", " or ", " and ", "0", "9", "10", "25", "99999", "work ", "most ", "when ", " names ",
        "/", "*", "+", "-", "<", "=", ">", ".", "\n", "\t", " after ", "wear ", "x", "0000", "\u00e9"};
    private final Random random;

    RandomTexts(Random random) {
        this.random = random;
    }

    private int upTo(int n) {
        return random.nextInt(n + 1);
    }

    private boolean rarely() {
        return random.nextInt(40) == 0;
    }

    /** A NUMBER of least .. greatest, often one of these, rarely beyond. */
    private int number(int least, int greatest) {
        if (rarely()) {
            return random.nextBoolean() ? greatest + 1 : Math.max(0, least - 1);
        }
        switch (random.nextInt(8)) {
            case 0:
                return Math.max(0, greatest);
            case 1:
                return least;
            default:
                return least + upTo(Math.max(0, greatest - least));
        }
    }

    private String blank() {
        String[] blanks = {" ", " ", " ", "\n", "  ", " \n"};
        return blanks[random.nextInt(blanks.length)];
    }

    String text(int k, int people) {
        StringBuilder s = new StringBuilder();
        if (random.nextInt(12) > 0) {
            switch (k) {
                case 0:
                    law(s);
                    break;
                case 1:
                    voices(s, people);
                    break;
                case 2:
                    works(s, people);
                    break;
                default:
                    council(s, people, 0);
                    break;
            }
        }
        for (int n = random.nextInt(6) == 0 ? 1 + random.nextInt(3) : 0; n > 0; n--) {
            harm(s);
        }
        s.setLength(Math.min(s.length(), 400));
        return s.toString();
    }

    private void harm(StringBuilder s) {
        int i = upTo(s.length());
        switch (random.nextInt(4)) {
            case 0:
                s.insert(i, PIECES[random.nextInt(PIECES.length)]);
                break;
            case 1:
                s.delete(i, Math.min(s.length(), i + 1 + random.nextInt(5)));
                break;
            case 2:
                s.setLength(i);
                break;
            default:
                s.insert(i, (char) random.nextInt(256));
                break;
        }
    }

    private void law(StringBuilder s) {
        String[] words = {"weight", "wear", "notice"};
        int lines = rarely() ? 15 + random.nextInt(4) : random.nextInt(6);
        for (int i = 0; i < lines; i++) {
            s.append(words[random.nextInt(3)]).append(blank());
            if (lines > 9) {
                s.append(random.nextInt(30));
            } else {
                sum(s, 1);
            }
            if (random.nextInt(3) == 0 && lines < 9) {
                s.append(blank()).append("when ");
                condition(s, 0);
            }
            s.append(';');
        }
    }

    private void sum(StringBuilder s, int more) {
        unit(s);
        for (int n = random.nextInt(2 + more); n > 0; n--) {
            if (random.nextInt(4) == 0) {
                s.append(" / ").append(number(1, random.nextInt(3) == 0 ? 9999 : 9));
            } else {
                s.append(' ').append("+-*+*".charAt(random.nextInt(5))).append(' ');
                unit(s);
            }
        }
    }

    private void unit(StringBuilder s) {
        int kind = random.nextInt(8);
        if (kind < 4) {
            s.append(FACTS[random.nextInt(FACTS.length)]);
        } else {
            s.append(kind == 4 ? number(0, 9999) : kind == 5 ? number(0, 999) : random.nextInt(12));
        }
    }

    private void condition(StringBuilder s, int depth) {
        int kind = random.nextInt(depth > 9 ? 3 : 8);
        if (kind < 4) {
            sum(s, 0);
            s.append(blank()).append("<=>".charAt(random.nextInt(3))).append(blank());
            sum(s, 0);
        } else if (kind == 4) {
            s.append("(");
            condition(s, depth + 1);
            s.append(")");
        } else if (kind == 5) {
            s.append("not ");
            condition(s, depth + 1);
        } else {
            condition(s, depth + 2);
            s.append(random.nextBoolean() ? " or " : " and ");
            condition(s, depth + 2);
        }
        if (rarely()) {
            nest(s);
        }
    }

    private void nest(StringBuilder s) {
        s.append(random.nextBoolean() ? " and " : " or ");
        int deep = 6 + random.nextInt(4);
        int open = 0;
        for (int i = 0; i < deep; i++) {
            boolean not = random.nextInt(3) == 0;
            s.append(not ? "not " : "(");
            open += not ? 0 : 1;
        }
        s.append("had = 0");
        for (int i = 0; i < open; i++) {
            s.append(")");
        }
    }

    private void voices(StringBuilder s, int people) {
        int few = 1 + random.nextInt(Math.max(1, people));
        for (int p = 0; p < people; p++) {
            int whom = random.nextInt(few);
            if (whom != p && random.nextInt(6) > 0 || rarely()) {
                s.append(p).append(blank()).append("names").append(blank()).append(rarely() ? people : whom).append(';').append(blank());
            }
        }
    }

    private void works(StringBuilder s, int people) {
        int count = rarely() ? 11 + random.nextInt(3) : random.nextInt(10);
        int few = 1 + random.nextInt(Math.max(1, people));
        int longest = random.nextInt(3) == 0 ? 24 : 8;
        int traced = random.nextInt(3) == 0 ? 9 : 2;
        int[] owner = new int[20];
        for (int i = 0; i < count; i++) {
            owner[i] = random.nextInt(random.nextInt(3) == 0 ? 1 : few);
            s.append("work ").append(rarely() ? people : owner[i]).append(" for ").append(number(1, longest));
            s.append(" worth ").append(number(0, random.nextInt(3) == 0 ? 99 : 4)).append(" dust ").append(number(0, traced));
            s.append(" wax ").append(number(0, traced));
            int behind = i == 0 ? 0 : random.nextInt(i);
            if (i > 0 && random.nextInt(3) == 0 && owner[behind] == owner[i] || rarely()) {
                s.append(" after ").append(behind);
            }
            s.append(';');
        }
    }

    private void council(StringBuilder s, int people, int depth) {
        int kind = random.nextInt(depth > 6 ? 4 : 8);
        if (kind < 2) {
            s.append("most ").append(number(1, random.nextInt(4) == 0 ? 10 : Math.max(1, people / 2)));
        } else if (kind < 4) {
            s.append(number(0, people - 1));
        } else if (kind == 4) {
            s.append('(');
            council(s, people, depth + 1);
            s.append(')');
        } else {
            council(s, people, depth + 2);
            s.append(random.nextBoolean() ? " or " : " and ");
            council(s, people, depth + 2);
        }
        if (rarely()) {
            int deep = 7 + random.nextInt(3);
            s.append(" or ").append("(".repeat(deep)).append("most 1").append(")".repeat(deep));
        }
    }
}
