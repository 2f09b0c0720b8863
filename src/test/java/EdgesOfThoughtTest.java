import java.io.IOException;

/** Promises 12 to 25: a test for each sentence of DOC.md that names an edge. */
public final class EdgesOfThoughtTest {
    private static final Check C = new Check();
    private static final int MAX = Integer.MAX_VALUE;
    private static final int MIN = Integer.MIN_VALUE;
    private static final String CHAIN = "work 1 for 6 worth 9 dust 1 wax 2; work 0 for 1 worth 1 dust 0 wax 0;"
            + "work 1 for 4 worth 3 dust 2 wax 1 after 0; work 1 for 20 worth 8 dust 3 wax 3;";

    public static void main(String[] args) throws IOException {
        Edges.run(C, EdgesOfThoughtTest.class, 12, 25);
    }

    /** So many PEOPLE, AGE 30 and NEED 5, of whom 0 names 1. */
    private static SpareDay named(int people) {
        SpareDay x = Check.people(people);
        Check.tell(x, 1, "0 names 1;");
        return x;
    }

    private static SpareDay chained() {
        SpareDay x = named(3);
        Check.tell(x, 2, CHAIN);
        return x;
    }

    private static String work(int person, int hours, int worth, int dust, int wax) {
        return "work " + person + " for " + hours + " worth " + worth + " dust " + dust + " wax " + wax + ";";
    }

    // ---- 12: of

    @Says(promise = 12, words = "NONE - 1 if there is none such, or another what.")
    static void ofNobody() {
        SpareDay x = Check.people(3);
        int[] wrong = {-1, 3, 10, MIN, MAX};
        for (int who : wrong) {
            for (int what = 0; what <= 8; what++) {
                C.due("of " + who + " " + what, -2, x.of(who, what));
            }
        }
        C.due("of the last", 30, x.of(2, 0));
        int[] whats = {-1, 9, MIN, MAX};
        for (int what : whats) {
            C.due("what " + what, -2, x.of(0, what));
        }
    }

    @Says(promise = 12, words = "5 whom he names (NONE), 6 to whom he has TIES (a set), 7 weight, 8 the sum of weights that name him")
    static void whomHeNames() {
        SpareDay x = Check.people(10);
        C.due("nobody", -1, x.of(9, 5));
        C.due("no ties", 0, x.of(9, 6));
        C.due("weight", 1, x.of(9, 7));
        C.due("nobody names him", 0, x.of(9, 8));
        StringBuilder voices = new StringBuilder();
        for (int p = 0; p < 9; p++) {
            voices.append(p).append("names9;");
            x.tie(p, 9, true);
        }
        Check.tell(x, 1, voices.append("9names0;").toString());
        Check.tell(x, 0, "weight 24 when person < 9; weight 0;");
        C.due("whom he names", 0, x.of(9, 5));
        C.due("whom the others name", 9, x.of(8, 5));
        C.due("ties to all others", 511, x.of(9, 6));
        C.due("weight", 0, x.of(9, 7));
        C.due("all others' weights", 9 * 24, x.of(9, 8));
        C.due("his own weighs 0", 0, x.of(0, 8));
        x.set(0, 0, 24);
        C.due("the limit is not asked", 9 * 24, x.of(9, 8));
    }

    // ---- 13: after

    @Says(promise = 13, words = "wear (notice false), notice of a PERSON who used so many HOURS (0 .. 24); NONE if one can't be.")
    static void usedHours() {
        SpareDay x = Check.people(2);
        Check.tell(x, 0, "wear used + person; notice used * 10 + person;");
        C.due("none used", 1, x.after(1, 0, false));
        C.due("none used", 1, x.after(1, 0, true));
        C.due("all used", 24, x.after(0, 24, false));
        C.due("all used", 240, x.after(0, 24, true));
        int[] used = {-1, 25, MIN, MAX};
        for (int h : used) {
            C.due("wear of " + h, -1, x.after(0, h, false));
            C.due("notice of " + h, -1, x.after(0, h, true));
        }
        int[] who = {-1, 2, 10, MIN, MAX};
        for (int p : who) {
            C.due("wear of nobody " + p, -1, x.after(p, 0, false));
            C.due("notice of nobody " + p, -1, x.after(p, 24, true));
        }
        x.set(0, 0, 20);
        C.due("more than there are now", 241, x.after(1, 24, true));
        C.due("nothing comes of it", 20, x.look(2));
    }

    @Says(promise = 13, words = "Quotients go downwards.")
    static void usedByEight() {
        SpareDay x = Check.people(1);
        int[] used = {0, 1, 7, 8, 9, 15, 16, 17, 23, 24};
        int[] wear = {0, 0, 0, 1, 1, 1, 2, 2, 2, 3};
        for (int i = 0; i < used.length; i++) {
            C.due("wear of " + used[i], wear[i], x.after(0, used[i], false));
        }
    }

    // ---- 14: work

    @Says(promise = 14, words = "5 after (NONE), 6 DONE 1, else 0. NONE - 1 if there is none such, or another what.")
    static void noSuchWork() {
        SpareDay x = chained();
        int[] wrong = {-1, 4, 12, MIN, MAX};
        for (int i : wrong) {
            for (int what = 0; what <= 6; what++) {
                C.due("work " + i + " " + what, -2, x.work(i, what));
            }
        }
        int[] whats = {-1, 7, MIN, MAX};
        for (int what : whats) {
            C.due("what " + what, -2, x.work(0, what));
        }
        C.due("the last", 20, x.work(3, 1));
        C.due("after none", -1, x.work(0, 5));
        C.due("after the first", 0, x.work(2, 5));
        Check.tell(x, 2, "");
        C.due("none any more", -2, x.work(0, 5));
    }

    @Says(promise = 14, words = "6 DONE 1, else 0")
    static void doneOrNot() {
        SpareDay x = chained();
        x.years(1);
        int[] done = {1, 0, 1, 0};
        for (int i = 0; i < 4; i++) {
            C.due("work " + i, done[i], x.work(i, 6));
        }
        x.undo();
        for (int i = 0; i < 4; i++) {
            C.due("undone " + i, 0, x.work(i, 6));
        }
    }

    // ---- 15: book

    @Says(promise = 15, words = "Of line i of THE BOOK what 0 YEAR, 1 what, 2 the PERSON, 3 HOURS. NONE - 1 if there is none such, or another what.")
    static void noSuchLine() {
        SpareDay x = chained();
        C.due("no line at first", -2, x.book(0, 0));
        x.years(1);
        int lines = x.look(7);
        int[] wrong = {-1, lines, 149, 150, MIN, MAX};
        for (int i : wrong) {
            for (int what = 0; what <= 3; what++) {
                C.due("line " + i + " " + what, -2, x.book(i, what));
            }
        }
        int[] whats = {-1, 4, MIN, MAX};
        for (int what : whats) {
            C.due("what " + what, -2, x.book(0, what));
        }
        C.due("the last", 0, x.book(lines - 1, 0));
    }

    @Says(promise = 15, words = "the PERSON (1, 2: NONE; 3: the WORK), HOURS used (0, 3: its own; else 0); of one YEAR in the order 0, 3 (by number), 4.")
    static void linesOfAYear() {
        SpareDay x = named(2);
        Check.tell(x, 2, work(1, 3, 1, 0, 0) + work(0, 1, 9, 0, 0) + work(1, 4, 1, 0, 0) + work(1, 5, 1, 0, 0));
        Check.tell(x, 0, "notice 1000; wear 12;");
        x.years(2);
        Check.tell(x, 1, "");
        x.years(1);
        int[][] lines = {{0, 0, 1, 12}, {0, 3, 0, 3}, {0, 3, 2, 4}, {0, 3, 3, 5}, {0, 4, 1, 0}, {1, 1, -1, 0}, {2, 2, -1, 0}};
        C.due("lines", lines.length, x.look(7));
        for (int i = 0; i < lines.length; i++) {
            for (int what = 0; what < 4; what++) {
                C.due("line " + i + " " + what, lines[i][what], x.book(i, what));
            }
        }
        Check.tell(x, 1, "0 names 1;");
        x.years(1);
        C.due("given without works", 0, x.book(7, 3));
        C.due("noticed", 4, x.book(8, 1));
        C.due("no more", 9, x.look(7));
    }

    @Says(promise = 15, words = "THE BOOK (150 lines; no more then)")
    static void aFullBook() {
        for (int kept = 146; kept <= 151; kept++) {
            SpareDay x = Check.people(2);
            for (int i = 0; i < 5; i++) {
                x.years(29);
            }
            x.years(kept - 145);
            Check.tell(x, 1, "0 names 1;");
            Check.tell(x, 2, work(1, 3, 1, 0, 0) + work(1, 4, 1, 0, 0));
            Check.tell(x, 0, "notice 1000;");
            C.due("kept", Math.min(150, kept), x.look(7));
            x.years(1);
            C.due("four lines more, 150 at most", Math.min(150, kept + 4), x.look(7));
            int[] what = {0, 3, 3, 4};
            for (int i = 0; i < 4; i++) {
                C.due("line " + i, kept + i < 150 ? what[i] : -2, x.book(kept + i, 1));
            }
            C.due("noticed all the same", 1, x.look(5));
            C.due("worth all the same", 2, x.look(6));
            C.due("had all the same", 1, x.of(1, 3));
            x.undo();
            C.due("undone", Math.min(150, kept), x.look(7));
            Check.tell(x, 1, "");
            x.years(1);
            C.due("kept", Math.min(150, kept + 1), x.look(7));
            C.due("the last", 2, x.book(x.look(7) - 1, 1));
        }
    }

    // ---- 16: does

    @Says(promise = 16, words = "Whether a set of PEOPLE (others are left out) does for THE COUNCIL.")
    static void othersAreLeftOut() {
        SpareDay x = Check.people(3);
        Check.tell(x, 3, "most 3");
        C.due("three others", false, x.does(7 << 3));
        C.due("two and others", false, x.does(3 | 1 << 3 | 1 << 9));
        C.due("all others", false, x.does(~7));
        C.due("the sign alone", false, x.does(MIN));
        C.due("all three", true, x.does(7));
        C.due("all", true, x.does(-1));
        C.due("all but the sign", true, x.does(MAX));
        Check.tell(x, 3, "most 4");
        C.due("no fourth", false, x.does(-1));
        x.person(1, 1);
        C.due("a fourth came", true, x.does(15));
    }

    @Says(promise = 16, words = "empty: any set of voices does")
    static void anySetDoes() {
        SpareDay x = new SpareDay();
        C.due("of nobody", true, x.does(0));
        C.due("of nobody", true, x.does(-1));
        x.person(1, 1);
        C.due("the empty set", true, x.does(0));
        Check.tell(x, 3, "0");
        C.due("0 is needed", false, x.does(0));
        Check.tell(x, 3, "");
        C.due("the empty set again", true, x.does(0));
    }

    // ---- 17: plan

    @Says(promise = 17, words = "PLAN what 0 worth, 1 HOURS, 2 the set of WORKS. NONE if one can't be, or another what.")
    static void noSuchPlan() {
        SpareDay x = chained();
        int[] who = {-1, 3, 10, MIN, MAX};
        for (int p : who) {
            for (int what = 0; what <= 2; what++) {
                C.due("of " + p, -1, x.plan(p, 24, what));
            }
        }
        int[] hours = {-1, 25, MIN, MAX};
        for (int h : hours) {
            for (int what = 0; what <= 2; what++) {
                C.due("in " + h, -1, x.plan(1, h, what));
            }
        }
        int[] whats = {-1, 3, MIN, MAX};
        for (int what : whats) {
            C.due("what " + what, -1, x.plan(1, 24, what));
        }
    }

    @Says(promise = 17, words = "PLAN of a PERSON in h (0 .. 24) HOURS")
    static void planInHours() {
        SpareDay x = chained();
        Check.tell(x, 2, work(1, 24, 99, 0, 0) + work(1, 1, 1, 0, 0));
        C.due("in none", 0, x.plan(1, 0, 2));
        C.due("in 1", 2, x.plan(1, 1, 2));
        C.due("in 23", 2, x.plan(1, 23, 2));
        C.due("in 24", 1, x.plan(1, 24, 2));
        C.due("its worth", 99, x.plan(1, 24, 0));
        C.due("its hours", 24, x.plan(1, 24, 1));
        C.due("no worth in none", 0, x.plan(1, 0, 0));
        C.due("no hours in none", 0, x.plan(1, 0, 1));
        x.set(0, 0, 24);
        C.due("wear is not asked", 1, x.plan(1, 24, 2));
        C.due("without works", 0, x.plan(0, 24, 2));
    }

    @Says(promise = 17, words = "each only with that which it is after (or that being DONE)")
    static void planWithThatAhead() {
        SpareDay x = chained();
        C.due("not 2 without 0", 1, x.plan(1, 9, 2));
        C.due("both", 5, x.plan(1, 10, 2));
        C.due("nothing", 0, x.plan(1, 5, 2));
        x.set(2, 0, 24);
        x.set(0, 0, 18);
        x.years(1);
        C.due("0 is done", 1, x.work(0, 6));
        C.due("2 alone", 4, x.plan(1, 4, 2));
        C.due("2 and 3", 12, x.plan(1, 24, 2));
        C.due("not in 3", 0, x.plan(1, 3, 2));
        Check.tell(x, 2, work(1, 8, 0, 0, 0) + "work1for8worth0dust0wax0after0;" + "work1for8worth1dust0wax0after1;");
        C.due("a chain of three", 7, x.plan(1, 24, 2));
        C.due("too long", 0, x.plan(1, 23, 2));
    }

    @Says(promise = 17, words = "most worth in h HOURS at most; of several sets the fewest HOURS, then the least set")
    static void ofSeveralPlans() {
        SpareDay x = named(2);
        Check.tell(x, 2, work(1, 5, 4, 0, 0) + work(1, 4, 4, 0, 0) + work(1, 4, 4, 0, 0));
        C.due("the fewest hours, then the least", 2, x.plan(1, 7, 2));
        C.due("two: the fewest hours", 6, x.plan(1, 9, 2));
        C.due("all", 7, x.plan(1, 13, 2));
        C.due("just not all", 6, x.plan(1, 12, 2));
        Check.tell(x, 2, work(1, 1, 0, 0, 0) + work(1, 2, 3, 0, 0) + work(1, 1, 1, 0, 0) + work(1, 1, 2, 0, 0));
        C.due("worth 0 is not done; 2 and 3, or 1: the least", 2, x.plan(1, 2, 2));
        C.due("all of worth", 14, x.plan(1, 24, 2));
        Check.tell(x, 2, work(1, 1, 0, 0, 0));
        C.due("nothing is worth it", 0, x.plan(1, 24, 2));
    }

    // ---- 18: given

    @Says(promise = 18, words = "GIVEN of the n-th YEAR from now (1 .. 40; the first is this one)")
    static void oneToForty() {
        SpareDay x = named(2);
        Check.tell(x, 0, "weight 1 when year = 0; weight 1 when year = 39; weight 0;");
        C.due("the first", 1, x.given(1, 0));
        C.due("the second", -1, x.given(2, 0));
        C.due("the 39th", -1, x.given(39, 0));
        C.due("the 40th", 1, x.given(40, 0));
        int[] wrong = {0, -1, 41, MIN, MAX};
        for (int n : wrong) {
            for (int what = 0; what <= 2; what++) {
                C.due("year " + n, -2, x.given(n, what));
            }
        }
    }

    @Says(promise = 18, words = "NONE - 1 if one can't be, or another what.")
    static void givenOfAnotherWhat() {
        SpareDay x = named(2);
        int[] wrong = {-1, 3, MIN, MAX};
        for (int what : wrong) {
            C.due("what " + what, -2, x.given(1, what));
        }
    }

    @Says(promise = 18, words = "the PERSON (NONE: rested or kept); how many of these YEARS it rested")
    static void restedOrKept() {
        SpareDay x = named(2);
        x.set(1, 0, 6);
        Check.tell(x, 0, "wear 12; weight 0 when year = 2; weight 1;");
        int[] whom = {1, -1, -1, 1, -1, -1, 1};
        int[] rested = {0, 1, 1, 1, 2, 3, 3};
        for (int n = 1; n <= 7; n++) {
            C.due("who in " + n, whom[n - 1], x.given(n, 0));
            C.due("rested in " + n, rested[n - 1], x.given(n, 1));
        }
        x.set(0, 0, 24);
        x.set(1, 0, 0);
        C.due("always", 40, x.given(40, 1));
    }

    @Says(promise = 18, words = "WORTH they make")
    static void worthTheyMake() {
        SpareDay x = named(2);
        Check.tell(x, 2, work(1, 24, 7, 0, 0) + work(1, 24, 5, 0, 0));
        Check.tell(x, 0, "wear 0;");
        int[] worth = {7, 12, 12};
        for (int n = 1; n <= 3; n++) {
            C.due("in " + n, worth[n - 1], x.given(n, 2));
        }
        x.years(1);
        C.due("what was made is left out", 5, x.given(40, 2));
        x.years(1);
        C.due("none is left", 0, x.given(40, 2));
        C.due("made", 12, x.look(6));
    }

    @Says(promise = 18, words = "4. IN THOUGHT (nothing of it stays; no DRAWS: nobody notices).")
    static void nothingStays() {
        SpareDay x = chained();
        Check.tell(x, 0, "notice 1000; wear 5;");
        x.sit(1);
        x.given(40, 0);
        x.soonest(0);
        x.can(0);
        int[] look = {3, 0, 1, 2, 12, 0, 0, 0, 0, 2, 1, 4, 0, 0, 1, 1, 0, 0};
        for (int i = 0; i < look.length; i++) {
            C.due("look " + i, look[i], x.look(i));
        }
        for (int p = 0; p < 3; p++) {
            C.due("age", 30, x.of(p, 0));
            C.due("had", 0, x.of(p, 3));
            C.due("since", 0, x.of(p, 4));
            C.due("names", p == 0 ? 1 : -1, x.of(p, 5));
        }
        C.due("none done", 0, x.work(0, 6));
        C.due("the sitting can be undone", true, x.undo());
        C.due("wear", 0, x.look(2));
    }

    // ---- 19: can

    @Says(promise = 19, words = "CAN, as a set; NONE if there is no such PERSON.")
    static void canOfNobody() {
        SpareDay x = named(3);
        int[] wrong = {-1, 3, 10, MIN, MAX};
        for (int p : wrong) {
            C.due("can " + p, -1, x.can(p));
        }
        Check.tell(x, 0, "weight 0;");
        C.due("without weight nobody", 0, x.can(0));
        x = Check.people(1);
        C.due("one alone has nobody to name", 0, x.can(0));
    }

    @Says(promise = 19, words = "CAN of a PERSON v, with a VOICE or without")
    static void withAVoiceOrWithout() {
        SpareDay x = Check.people(3);
        C.due("without: any other one", 6, x.can(0));
        C.due("without: any other one", 3, x.can(2));
        Check.tell(x, 1, "0 names 1;");
        C.due("with: any other one, too", 6, x.can(0));
        C.due("1: 0, or it is left with himself", 3, x.can(1));
        C.due("2: 0, who is the less, or it is left with 1", 3, x.can(2));
    }

    @Says(promise = 19, words = "(by VOICES; LIMIT not asked)")
    static void canWithoutLimit() {
        SpareDay x = named(3);
        x.set(0, 0, 24);
        x.set(2, 0, 1);
        C.due("can", 6, x.can(0));
        C.due("rests", 1, x.given(1, 1));
    }

    @Says(promise = 19, words = "if v named nobody, or any other one, all else as it is (a set of all of these)")
    static void namedNobody() {
        SpareDay x = Check.people(4);
        Check.tell(x, 1, "0 names 3; 1 names 2;");
        Check.tell(x, 0, "weight 3 when person = 0; weight 1;");
        C.due("0: 1, 2, 3; nobody leaves 2", 14, x.can(0));
        C.due("1: 3 always", 8, x.can(1));
        Check.tell(x, 3, "1");
        C.due("0 never does for it, 2 stays", 4, x.can(0));
        C.due("1: 0, 2, 3", 13, x.can(1));
        Check.tell(x, 3, "0 and 1");
        C.due("0: only with 1's 2", 4, x.can(0));
        C.due("1: only with 0's 3", 8, x.can(1));
        C.due("2: nobody", 0, x.can(2));
        C.due("as it is", 3, x.of(0, 5));
    }

    // ---- 20: fewest

    @Says(promise = 20, words = "NONE if none do, there is no such PERSON, or another what.")
    static void fewestOfNone() {
        SpareDay x = Check.people(3);
        Check.tell(x, 3, "most 3");
        C.due("none do without him", -1, x.fewest(0, 0));
        C.due("none do without him", -1, x.fewest(2, 1));
        Check.tell(x, 3, "most 2");
        C.due("how many", 2, x.fewest(0, 0));
        int[] who = {-1, 3, 10, MIN, MAX};
        for (int p : who) {
            C.due("of " + p, -1, x.fewest(p, 0));
            C.due("of " + p, -1, x.fewest(p, 1));
        }
        int[] whats = {-1, 2, MIN, MAX};
        for (int what : whats) {
            C.due("what " + what, -1, x.fewest(0, what));
        }
    }

    @Says(promise = 20, words = "the fewest PEOPLE (without him) who do for THE COUNCIL (weights not asked): how many; the set (of several the least)")
    static void fewestWithoutHim() {
        SpareDay x = Check.people(4);
        C.due("empty: none", 0, x.fewest(0, 0));
        C.due("the empty set", 0, x.fewest(0, 1));
        Check.tell(x, 0, "weight 0;");
        Check.tell(x, 3, "most 2");
        C.due("without 0", 6, x.fewest(0, 1));
        C.due("without 1", 5, x.fewest(1, 1));
        C.due("without 3: the least", 3, x.fewest(3, 1));
        Check.tell(x, 3, "3 or 0 and 1");
        C.due("one, though its set is greater", 8, x.fewest(2, 1));
        C.due("one", 1, x.fewest(2, 0));
        C.due("without 3 two", 3, x.fewest(3, 1));
        C.due("without 0 one", 8, x.fewest(0, 1));
        x = Check.people(10);
        Check.tell(x, 3, "most 9");
        C.due("nine", 9, x.fewest(9, 0));
        C.due("all others", 511, x.fewest(9, 1));
        C.due("all others", 1022, x.fewest(0, 1));
    }

    // ---- 21: hinge

    @Says(promise = 21, words = "HINGE; NONE if there is no such PERSON.")
    static void hingeOfNobody() {
        SpareDay x = Check.people(3);
        Check.tell(x, 3, "0");
        int[] who = {-1, 3, 10, MIN, MAX};
        for (int p : who) {
            C.due("of " + p, -1, x.hinge(p));
        }
        C.due("always", 4, x.hinge(0));
        C.due("never", 0, x.hinge(2));
    }

    @Says(promise = 21, words = "in how many sets of all PEOPLE without him THE COUNCIL is not satisfied, and with him it is")
    static void hingeOfAll() {
        SpareDay x = Check.people(1);
        C.due("empty: satisfied without him", 0, x.hinge(0));
        Check.tell(x, 3, "most 1");
        C.due("he alone: the empty set", 1, x.hinge(0));
        Check.tell(x, 3, "most 2");
        C.due("never", 0, x.hinge(0));
        x = Check.people(10);
        Check.tell(x, 3, "9");
        C.due("in each of 512", 512, x.hinge(9));
        Check.tell(x, 3, "most 10");
        C.due("in that of all others", 1, x.hinge(0));
        Check.tell(x, 3, "most 5");
        C.due("in those of four", 126, x.hinge(4));
    }

    // ---- 22: turnsOf

    @Says(promise = 22, words = "TURNS of n (1 .. 10) YEARS from now on")
    static void oneToTenYears() {
        SpareDay x = Check.people(10);
        C.due("one", 1, x.turnsOf(1, 0));
        C.due("ten", 10, x.turnsOf(10, 0));
        for (int i = 0; i < 10; i++) {
            C.due("in " + i, i, x.turnsOf(10, 10 + i));
        }
        int[] wrong = {0, -1, 11, MIN, MAX};
        for (int n : wrong) {
            C.due("of " + n, -2, x.turnsOf(n, 0));
            C.due("of " + n, -2, x.turnsOf(n, 10));
        }
    }

    @Says(promise = 22, words = "10 + i who in the i-th (NONE: nobody). NONE - 1 if one can't be, or another what.")
    static void turnsOfAnotherWhat() {
        SpareDay x = Check.people(2);
        for (int n = 1; n <= 10; n++) {
            C.due("the first", 0, x.turnsOf(n, 10));
            C.due("the last", n == 1 ? 0 : n == 2 ? 1 : -1, x.turnsOf(n, 9 + n));
            C.due("one more", -2, x.turnsOf(n, 10 + n));
        }
        int[] wrong = {-1, 1, 9, 20, MIN, MAX};
        for (int what : wrong) {
            C.due("what " + what, -2, x.turnsOf(10, what));
        }
    }

    @Says(promise = 22, words = "in each one PERSON or nobody, none twice, each at BY at the latest")
    static void atByAtTheLatest() {
        SpareDay x = Check.people(3);
        x.years(5);
        x.set(4, 0, 4);
        x.set(4, 1, 5);
        x.set(4, 2, 6);
        C.due("one is behind", 2, x.turnsOf(10, 0));
        int[] whom = {1, 2, -1, -1};
        for (int i = 0; i < 4; i++) {
            C.due("in " + i, whom[i], x.turnsOf(10, 10 + i));
        }
        x.set(4, 2, 5);
        C.due("two in the same year", 1, x.turnsOf(10, 0));
        C.due("the lesser", 1, x.turnsOf(10, 10));
        C.due("nobody", -1, x.turnsOf(10, 11));
        x.set(4, 1, 4);
        x.set(4, 2, 4);
        C.due("all are behind", 0, x.turnsOf(10, 0));
        C.due("nobody", -1, x.turnsOf(10, 10));
    }

    @Says(promise = 22, words = "of several ways the first (YEAR by YEAR: a lesser PERSON, nobody last)")
    static void theFirstWay() {
        SpareDay x = Check.people(4);
        int[] by = {3, 2, 1, 0};
        for (int p = 0; p < 4; p++) {
            x.set(4, p, by[p]);
        }
        for (int i = 0; i < 4; i++) {
            C.due("all four: in " + i, 3 - i, x.turnsOf(4, 10 + i));
        }
        C.due("in one the least", 0, x.turnsOf(1, 10));
        C.due("in two the least first", 0, x.turnsOf(2, 10));
        C.due("in two the least who can", 1, x.turnsOf(2, 11));
        C.due("in three", 0, x.turnsOf(3, 10));
        C.due("in three: 2, for whom it would be too late then", 2, x.turnsOf(3, 11));
        C.due("in three", 1, x.turnsOf(3, 12));
        C.due("in three that is one fewer", 3, x.turnsOf(3, 0));
    }

    // ---- 23: traces

    @Says(promise = 23, words = "TRACES are told: true; false if they can't be (0 .. 200 each).")
    static void tracesBounds() {
        SpareDay x = new SpareDay();
        C.due("greatest", true, x.traces(200, 200));
        C.due("dust", 200, x.look(16));
        C.due("wax", 200, x.look(17));
        C.due("one of each", true, x.traces(0, 1));
        int[] wrong = {-1, 201, MIN, MAX};
        for (int v : wrong) {
            C.due("dust " + v, false, x.traces(v, 5));
            C.due("wax " + v, false, x.traces(5, v));
        }
        C.due("dust as it was", 0, x.look(16));
        C.due("wax as it was", 1, x.look(17));
        C.due("least", true, x.traces(0, 0));
        C.due("wax", 0, x.look(17));
    }

    // ---- 24: fits

    @Says(promise = 24, words = "1 the least set (NONE). NONE if there is no such PERSON, or for another what.")
    static void noneFits() {
        SpareDay x = chained();
        x.traces(200, 200);
        C.due("none", 0, x.fits(1, 0));
        C.due("the least of none", -1, x.fits(1, 1));
        x.traces(1, 2);
        C.due("one", 1, x.fits(1, 0));
        int[] who = {-1, 3, 10, MIN, MAX};
        for (int p : who) {
            C.due("of " + p, -1, x.fits(p, 0));
            C.due("of " + p, -1, x.fits(p, 1));
        }
        int[] whats = {-1, 2, MIN, MAX};
        for (int what : whats) {
            C.due("what " + what, -1, x.fits(1, what));
        }
    }

    @Says(promise = 24, words = "that leave just so much")
    static void justSoMuch() {
        SpareDay x = named(2);
        Check.tell(x, 2, work(1, 1, 0, 2, 3) + work(1, 1, 0, 1, 0) + work(1, 1, 0, 0, 1));
        C.due("nothing: the empty set", 1, x.fits(1, 0));
        C.due("the empty set", 0, x.fits(1, 1));
        C.due("another's empty set", 1, x.fits(0, 0));
        int[][] traces = {{2, 3, 1}, {1, 3, -1}, {3, 3, 3}, {2, 4, 5}, {3, 4, 7}, {4, 4, -1}, {1, 1, 6}, {2, 2, -1}};
        for (int[] t : traces) {
            x.traces(t[0], t[1]);
            C.due(t[0] + " " + t[1], t[2], x.fits(1, 1));
            C.due(t[0] + " " + t[1] + " of another", 0, x.fits(0, 0));
        }
    }

    @Says(promise = 24, words = "(DONE or not; with that which each is after, but those DONE are not needed)")
    static void doneAreNotNeeded() {
        SpareDay x = chained();
        x.traces(2, 1);
        C.due("2 without 0", 0, x.fits(1, 0));
        x.traces(3, 3);
        C.due("0 and 2, or 3", 2, x.fits(1, 0));
        C.due("the least", 5, x.fits(1, 1));
        x.set(2, 0, 24);
        x.set(0, 0, 18);
        x.years(1);
        C.due("0 is done and fits still", 2, x.fits(1, 0));
        x.traces(2, 1);
        C.due("2 alone", 1, x.fits(1, 0));
        C.due("2 alone", 4, x.fits(1, 1));
        x.traces(1, 2);
        C.due("0 alone, done", 1, x.fits(1, 1));
    }

    @Says(promise = 24, words = "in 24 HOURS at most: how many; the least set")
    static void inADay() {
        SpareDay x = named(2);
        Check.tell(x, 2, work(1, 12, 0, 1, 0) + work(1, 12, 0, 1, 0) + work(1, 13, 0, 1, 0));
        x.traces(2, 0);
        C.due("24 hours fit, 25 do not", 1, x.fits(1, 0));
        C.due("0 and 1", 3, x.fits(1, 1));
        x.traces(1, 0);
        C.due("each alone", 3, x.fits(1, 0));
        x.traces(3, 0);
        C.due("all three do not", 0, x.fits(1, 0));
        x.set(0, 0, 24);
        x.traces(2, 0);
        C.due("wear is not asked", 1, x.fits(1, 0));
        Check.tell(x, 2, "work1for2worth0dust9wax9;".repeat(12));
        x.traces(108, 108);
        C.due("all twelve", 4095, x.fits(1, 1));
        x.traces(54, 54);
        C.due("any six", 924, x.fits(1, 0));
        C.due("the least", 63, x.fits(1, 1));
    }

    // ---- 25: lookAt

    @Says(promise = 25, words = "LOOK; NONE if fewer than two sets FIT, or there is no such PERSON.")
    static void fewerThanTwo() {
        SpareDay x = chained();
        C.due("the empty set alone", -1, x.lookAt(1));
        x.traces(200, 0);
        C.due("none", -1, x.lookAt(1));
        x.traces(1, 2);
        C.due("one", -1, x.lookAt(1));
        x.traces(3, 3);
        C.due("two", 0, x.lookAt(1));
        C.due("without works", -1, x.lookAt(2));
        int[] who = {-1, 3, 10, MIN, MAX};
        for (int p : who) {
            C.due("of " + p, -1, x.lookAt(p));
        }
    }

    @Says(promise = 25, words = "those with it and those without it: the greater number is least; of several the least")
    static void theGreaterNumberIsLeast() {
        SpareDay x = named(2);
        Check.tell(x, 2, work(0, 1, 0, 1, 0) + work(1, 1, 0, 9, 0) + work(1, 1, 0, 1, 0) + work(1, 1, 0, 1, 0) + work(1, 1, 0, 1, 0));
        x.traces(1, 0);
        C.due("three: each with it and two without", 2, x.lookAt(1));
        x.traces(2, 0);
        C.due("three: each in two and out of one", 2, x.lookAt(1));
        Check.tell(x, 2, work(1, 1, 0, 1, 0) + work(1, 1, 0, 1, 0) + work(1, 1, 0, 1, 0) + work(1, 1, 0, 0, 0) + work(1, 1, 0, 0, 0));
        x.traces(1, 0);
        C.due("twelve: 3 is in half of them", 3, x.lookAt(1));
        x.traces(0, 0);
        C.due("four of nothing: 3", 3, x.lookAt(1));
        Check.tell(x, 2, work(1, 1, 0, 1, 0) + "work1for1worth0dust0wax0after0;" + work(1, 1, 0, 1, 0) + work(1, 1, 0, 1, 0));
        x.traces(1, 0);
        C.due("0, 01, 2, 3", 4, x.fits(1, 0));
        C.due("0 is in half of them", 0, x.lookAt(1));
    }
}
