import java.io.IOException;

/** Promises 1 to 7: a test for each sentence of DOC.md that names an edge. */
public final class EdgesOfYearsTest {
    private static final Check C = new Check();
    private static final int MAX = Integer.MAX_VALUE;
    private static final int MIN = Integer.MIN_VALUE;
    private static final String CHAIN = "work 1 for 6 worth 9 dust 1 wax 2; work 0 for 1 worth 1 dust 0 wax 0;"
            + "work 1 for 4 worth 3 dust 2 wax 1 after 0; work 1 for 20 worth 8 dust 3 wax 3;";

    public static void main(String[] args) throws IOException {
        Edges.run(C, EdgesOfYearsTest.class, 1, 7);
    }

    /** So many PEOPLE, AGE 30 and NEED 5, of whom 0 names 1. */
    private static SpareDay named(int people) {
        SpareDay x = Check.people(people);
        Check.tell(x, 1, "0 names 1;");
        return x;
    }

    // ---- 1: a new object

    @Says(promise = 1, words = "`SpareDay()`: Nobody.")
    static void nobody() {
        SpareDay x = new SpareDay();
        C.due("people", 0, x.look(0));
        C.due("of nobody", -2, x.of(0, 0));
        C.due("nobody to set", false, x.set(3, 0, 1));
        C.due("nobody to tie", false, x.tie(0, 1, true));
        C.due("nobody wears", -1, x.after(0, 0, false));
        C.due("nobody plans", -1, x.plan(0, 0, 0));
        C.due("nobody is given", -1, x.given(40, 0));
        C.due("nobody can", -1, x.can(0));
        C.due("nobody's fewest", -1, x.fewest(0, 0));
        C.due("nobody hinges", -1, x.hinge(0));
        C.due("nobody in turns", 0, x.turnsOf(10, 0));
        C.due("nobody in the last turn", -1, x.turnsOf(10, 19));
        C.due("nobody fits", -1, x.fits(0, 0));
        C.due("nobody is looked at", -1, x.lookAt(0));
        C.due("nobody bids", -1, x.bid(0, 0));
        C.due("nobody is next", -1, x.next());
        C.due("nobody's need", 0, x.due(0));
        C.due("nobody's by", -1, x.due(1));
        C.due("nobody's set does", 1, x.doers(0));
        C.due("nobody has a veto", 0, x.doers(2));
        C.due("no thieves", 0, x.thieves());
        C.due("nobody soon", -1, x.soonest(0));
        C.due("no spread", 0, x.spread(0));
        C.due("nobody was latest", -1, x.spread(1));
        C.due("no way", -1, x.way(0, 0));
        C.due("no clique", 0, x.clique(0));
        C.due("the empty clique", 0, x.clique(1));
        C.due("nobody by voices", -1, x.look(15));
    }

    @Says(promise = 1, words = "STATE of draws (an int, 0 at first)")
    static void stateAtFirst() {
        C.due("state", 0, new SpareDay().look(8));
        C.due("it was", 0, new SpareDay().state(5));
    }

    @Says(promise = 1, words = "REST 0 .. 24 (2 at first)")
    static void restAtFirst() {
        SpareDay x = new SpareDay();
        C.due("rest", 2, x.look(3));
        x.set(0, 0, 24);
        x.years(1);
        C.due("2 less", 22, x.look(2));
    }

    @Says(promise = 1, words = "LIMIT 1 .. 24 (12 at first)")
    static void limitAtFirst() {
        SpareDay x = new SpareDay();
        C.due("limit", 12, x.look(4));
        C.due("12 years", 12, x.rests(1));
        x.set(0, 0, 11);
        C.due("does not rest at 11", 0, x.given(1, 1));
        x.set(0, 0, 12);
        C.due("rests at 12", 1, x.given(1, 1));
    }

    @Says(promise = 1, words = "YEAR 0 .. 999, NOTICED, WORTH (0 each at first)")
    static void yearNoticedWorthAtFirst() {
        SpareDay x = new SpareDay();
        C.due("year", 0, x.look(1));
        C.due("wear", 0, x.look(2));
        C.due("noticed", 0, x.look(5));
        C.due("worth", 0, x.look(6));
        C.due("lines of the book", 0, x.look(7));
        C.due("dust", 0, x.look(16));
        C.due("wax", 0, x.look(17));
    }

    @Says(promise = 1, words = "2. TEXTS (empty at first).")
    static void textsAtFirst() {
        SpareDay x = new SpareDay();
        for (int what = 9; what <= 14; what++) {
            C.due("look " + what, 0, x.look(what));
        }
        C.due("no work", -2, x.work(0, 0));
        C.due("any set does", true, x.does(0));
        C.due("the tape is empty", false, x.end(1));
        x.person(1, 1);
        C.due("he names nobody", -1, x.of(0, 5));
        C.due("weight 1", 1, x.of(0, 7));
        C.due("wear used by 8", 3, x.after(0, 24, false));
        C.due("notice 100", 100, x.after(0, 24, true));
    }

    @Says(promise = 1, words = "The constants: `NONE = -1`: None.")
    static void constants() {
        C.due("NONE", -1, SpareDay.NONE);
    }

    @Says(promise = 1, words = "An object is used for at most 512 calls after it has been made")
    static void allCallsAnswer() {
        SpareDay x = new SpareDay();
        for (int i = 1; i <= 512; i++) {
            C.due("call " + i, i - 1, x.state(i));
        }
        SpareDay y = new SpareDay();
        for (int i = 1; i < 512; i++) {
            C.due("sitting " + i, Math.min(24, i), y.sit(1));
        }
        C.due("undo, the 512th", true, y.undo());
    }

    // ---- 2: state

    @Says(promise = 2, words = "STATE is told: what it was.")
    static void anyIntIsAState() {
        SpareDay x = new SpareDay();
        int[] told = {1, MAX, MIN, -1, 0};
        int was = 0;
        for (int v : told) {
            C.due("it was", was, x.state(v));
            C.due("it is", v, x.look(8));
            was = v;
        }
        C.due("the same again", 0, x.state(0));
    }

    @Says(promise = 2, words = "it becomes 1664525 times itself + 1013904223 (ints, which wrap)")
    static void drawsWrap() {
        int[] before = {0, 1, -1, MAX, MIN, 1290, 1013904223};
        int[] behind = {1013904223, 1015568748, 1012239698, -1135243950, -1133579425, -1133825823, 1196435762};
        for (int i = 0; i < before.length; i++) {
            SpareDay x = named(2);
            x.state(before[i]);
            C.due("given", 1, x.years(1));
            C.due("behind " + before[i], behind[i], x.look(8));
        }
    }

    @Says(promise = 2, words = "then it is its highest 24 bits (without sign) modulo m")
    static void drawsHaveNoSign() {
        int[] before = {0, -1, MAX, MIN, 1290};
        int[] drawn = {563, 61, 669, 171, 208};
        for (int i = 0; i < before.length; i++) {
            for (int more = 0; more <= 1; more++) {
                SpareDay x = named(2);
                Check.tell(x, 0, "notice " + (drawn[i] + more) + ";");
                x.state(before[i]);
                x.years(1);
                C.due("drawn behind " + before[i] + ", notice " + (drawn[i] + more), more, x.look(5));
            }
        }
    }

    // ---- 3: person

    @Says(promise = 3, words = "1. PEOPLE 0 .. 9 as they come")
    static void peopleAsTheyCome() {
        SpareDay x = new SpareDay();
        for (int i = 0; i < 10; i++) {
            C.due("person", i, x.person(i, i));
            C.due("people", i + 1, x.look(0));
        }
        C.due("the first", 0, x.of(0, 0));
        C.due("the last", 9, x.of(9, 0));
    }

    @Says(promise = 3, words = "AGE 0 .. 99")
    static void ageOfAPerson() {
        SpareDay x = new SpareDay();
        C.due("below", -1, x.person(-1, 5));
        C.due("above", -1, x.person(100, 5));
        C.due("far below", -1, x.person(MIN, 5));
        C.due("far above", -1, x.person(MAX, 5));
        C.due("nobody came", 0, x.look(0));
        C.due("least", 0, x.person(0, 5));
        C.due("greatest", 1, x.person(99, 5));
        C.due("least", 0, x.of(0, 0));
        C.due("greatest", 99, x.of(1, 0));
    }

    @Says(promise = 3, words = "NEED 0 .. 24")
    static void needOfAPerson() {
        SpareDay x = new SpareDay();
        C.due("below", -1, x.person(30, -1));
        C.due("above", -1, x.person(30, 25));
        C.due("far below", -1, x.person(30, MIN));
        C.due("far above", -1, x.person(30, MAX));
        C.due("nobody came", 0, x.look(0));
        C.due("least", 0, x.person(30, 0));
        C.due("greatest", 1, x.person(30, 24));
        C.due("least", 0, x.of(0, 1));
        C.due("greatest", 24, x.of(1, 1));
    }

    @Says(promise = 3, words = "(the last YEAR that does for them; 999 at first)")
    static void byAtFirst() {
        SpareDay x = Check.people(10);
        C.due("by of the first", 999, x.of(0, 2));
        C.due("by of the last", 999, x.of(9, 2));
    }

    @Says(promise = 3, words = "HAD (how often they had it; 0), SINCE (0 at first)")
    static void hadAndSinceAtFirst() {
        SpareDay x = named(2);
        x.years(3);
        x.person(1, 1);
        C.due("had", 0, x.of(2, 3));
        C.due("since, though three years went by ahead of him", 0, x.of(2, 4));
        C.due("he names nobody", -1, x.of(2, 5));
        x.years(1);
        C.due("a year on", 1, x.of(2, 4));
    }

    @Says(promise = 3, words = "TIES between two of them, or not (not at first)")
    static void tiesAtFirst() {
        SpareDay x = Check.people(2);
        x.tie(0, 1, true);
        x.person(1, 1);
        C.due("none", 0, x.of(2, 6));
        C.due("none to him", 2, x.of(0, 6));
        C.due("no way", -1, x.way(0, 2));
    }

    @Says(promise = 3, words = "the number; NONE if one can't be, or there are ten.")
    static void noEleventh() {
        SpareDay x = Check.people(10);
        C.due("there are ten", -1, x.person(30, 5));
        C.due("and still", -1, x.person(0, 0));
        C.due("ten", 10, x.look(0));
        C.due("none such", -2, x.of(10, 0));
    }

    @Says(promise = 3, words = "NONE if one can't be, or there are ten.")
    static void whoCantBeTakesNoNumber() {
        SpareDay x = new SpareDay();
        x.sit(1);
        C.due("can't be", -1, x.person(100, 25));
        C.due("what can be undone stays", 1, x.look(14));
        C.due("the first number", 0, x.person(1, 1));
    }

    // ---- 4: set

    private static void bounds(int what, int least, int greatest) {
        SpareDay x = Check.people(2);
        int[] look = {2, 3, 4, 0, 0, 0};
        int[] of = {0, 0, 0, 1, 2, 0};
        int[] told = {least, greatest, least};
        for (int v : told) {
            C.due("told " + v, true, x.set(what, 1, v));
            int[] wrong = {least - 1, greatest + 1, MIN, MAX};
            for (int w : wrong) {
                C.due("can't be " + w, false, x.set(what, 1, w));
            }
            C.due("it is", v, what < 3 ? x.look(look[what]) : x.of(1, of[what]));
        }
        C.due("of the other as it was", of[what] == 2 ? 999 : of[what] == 1 ? 5 : 30, x.of(0, of[what]));
    }

    @Says(promise = 4, words = "WEAR 0 .. 24")
    static void setWear() {
        bounds(0, 0, 24);
    }

    @Says(promise = 4, words = "REST 0 .. 24")
    static void setRest() {
        bounds(1, 0, 24);
    }

    @Says(promise = 4, words = "LIMIT 1 .. 24")
    static void setLimit() {
        bounds(2, 1, 24);
    }

    @Says(promise = 4, words = "NEED 0 .. 24")
    static void setNeed() {
        bounds(3, 0, 24);
    }

    @Says(promise = 4, words = "BY 0 .. 999")
    static void setBy() {
        bounds(4, 0, 999);
    }

    @Says(promise = 4, words = "AGE 0 .. 99")
    static void setAge() {
        bounds(5, 0, 99);
    }

    @Says(promise = 4, words = "What 0 WEAR, 1 REST, 2 LIMIT (who not asked)")
    static void whoIsNotAsked() {
        SpareDay x = new SpareDay();
        int[] whos = {-1, 0, 10, MIN, MAX};
        for (int who : whos) {
            for (int what = 0; what < 3; what++) {
                C.due("set " + what + " of " + who, true, x.set(what, who, 7 + what));
            }
        }
        C.due("wear", 7, x.look(2));
        C.due("rest", 8, x.look(3));
        C.due("limit", 9, x.look(4));
    }

    @Says(promise = 4, words = "3 NEED, 4 BY, 5 AGE of PERSON who: true")
    static void whoIsAsked() {
        SpareDay x = Check.people(2);
        for (int what = 3; what < 6; what++) {
            C.due("the first", true, x.set(what, 0, 11));
            C.due("the last", true, x.set(what, 1, 12));
            int[] whos = {-1, 2, 10, MIN, MAX};
            for (int who : whos) {
                C.due("of nobody " + who, false, x.set(what, who, 11));
            }
        }
        for (int i = 0; i < 3; i++) {
            C.due("of the first", 11, x.of(0, i));
            C.due("of the last", 12, x.of(1, i));
        }
    }

    @Says(promise = 4, words = "false if one can't be, or another what.")
    static void anotherWhat() {
        SpareDay x = Check.people(1);
        x.sit(3);
        int[] whats = {-1, 6, MIN, MAX};
        for (int what : whats) {
            C.due("set " + what, false, x.set(what, 0, 1));
        }
        C.due("what can be undone stays", 1, x.look(14));
        C.due("wear as it was", 3, x.look(2));
        C.due("told in vain", false, x.set(0, 0, 25));
        C.due("what can be undone stays", 1, x.look(14));
    }

    // ---- 5: tie

    @Says(promise = 5, words = "false if one can't be (alike; it is so).")
    static void alike() {
        SpareDay x = Check.people(2);
        C.due("tie", false, x.tie(0, 0, true));
        C.due("untie", false, x.tie(1, 1, false));
        C.due("no tie", 0, x.of(0, 6));
        C.due("nothing to undo", 0, x.look(14));
    }

    @Says(promise = 5, words = "false if one can't be (alike; it is so).")
    static void itIsSo() {
        SpareDay x = Check.people(2);
        C.due("not tied, no more tied", false, x.tie(0, 1, false));
        C.due("tied", true, x.tie(0, 1, true));
        C.due("tied already", false, x.tie(0, 1, true));
        C.due("tied already, told the other way", false, x.tie(1, 0, true));
        C.due("no more", true, x.tie(1, 0, false));
        C.due("no more already", false, x.tie(0, 1, false));
        C.due("two can be undone", 2, x.look(14));
    }

    @Says(promise = 5, words = "To TIE, or no more: true; false if one can't be")
    static void tieNobody() {
        SpareDay x = Check.people(3);
        int[] wrong = {-1, 3, 10, MIN, MAX};
        for (int w : wrong) {
            C.due("to " + w, false, x.tie(0, w, true));
            C.due("of " + w, false, x.tie(w, 0, true));
            C.due("to " + w + " no more", false, x.tie(2, w, false));
            C.due("of " + w + " no more", false, x.tie(w, w, false));
        }
        C.due("the first and the last", true, x.tie(0, 2, true));
        C.due("each to the other", 4, x.of(0, 6));
        C.due("each to the other", 1, x.of(2, 6));
        C.due("nobody else", 0, x.of(1, 6));
        C.due("one can be undone", 1, x.look(14));
    }

    @Says(promise = 5, words = "To TIE two, or no more.")
    static void tenTies() {
        SpareDay x = Check.people(10);
        for (int p = 0; p < 9; p++) {
            C.due("tie", true, x.tie(9, p, true));
        }
        C.due("to all", 511, x.of(9, 6));
        C.due("no more to the first", true, x.tie(0, 9, false));
        C.due("to all but one", 510, x.of(9, 6));
        C.due("to none", 0, x.of(0, 6));
        C.due("to the last", 512, x.of(8, 6));
    }

    // ---- 6: sit

    @Says(promise = 6, words = "To SIT over a day: WEAR n (1 .. 24) more (24 at most).")
    static void sitAtMost() {
        SpareDay x = new SpareDay();
        C.due("least", 1, x.sit(1));
        C.due("to 23", 23, x.sit(22));
        C.due("just to 24", 24, x.sit(1));
        C.due("at 24", 24, x.sit(1));
        C.due("at 24", 24, x.sit(24));
        C.due("each was a sitting", 5, x.look(14));
        x = new SpareDay();
        C.due("greatest", 24, x.sit(24));
        x = new SpareDay();
        x.sit(1);
        C.due("beyond 24", 24, x.sit(24));
        C.due("wear", 24, x.look(2));
    }

    @Says(promise = 6, words = "To SIT: WEAR; NONE if n can't be.")
    static void cantSit() {
        SpareDay x = new SpareDay();
        x.sit(5);
        int[] wrong = {0, -1, 25, MIN, MAX};
        for (int n : wrong) {
            C.due("sit " + n, -1, x.sit(n));
        }
        C.due("wear", 5, x.look(2));
        C.due("no sitting", 1, x.look(14));
    }

    // ---- 7: years

    @Says(promise = 7, words = "YEARS go by (1 .. 40): how often it was GIVEN.")
    static void oneToFortyYears() {
        SpareDay x = named(2);
        Check.tell(x, 0, "wear 0;");
        C.due("one", 1, x.years(1));
        C.due("forty", 40, x.years(40));
        C.due("year", 41, x.look(1));
        int[] wrong = {0, -1, 41, MIN, MAX};
        for (int n : wrong) {
            C.due("years " + n, -1, x.years(n));
        }
        C.due("nothing is done", 41, x.look(1));
        C.due("had", 41, x.of(1, 3));
        C.due("6 can be undone", 6, x.look(14));
    }

    @Says(promise = 7, words = "how often it was GIVEN")
    static void restedAndKeptAreNotGiven() {
        SpareDay x = named(2);
        Check.tell(x, 0, "wear 12; notice 0; weight 0 when year = 2; weight 1;");
        x.set(1, 0, 6);
        C.due("twice in six", 2, x.years(6));
        int[] what = {0, 1, 2, 0, 1, 1};
        for (int year = 0; year < 6; year++) {
            C.due("year " + year, what[year], x.book(year, 1));
        }
        x = Check.people(2);
        C.due("none", 0, x.years(40));
        C.due("all kept", 40, x.look(7));
    }

    @Says(promise = 7, words = "NONE, and nothing is done, if one can't be, or YEAR would be above 999.")
    static void yearEnds() {
        SpareDay x = named(2);
        for (int i = 0; i < 24; i++) {
            x.years(40);
        }
        C.due("year", 960, x.look(1));
        int had = x.of(1, 3);
        int draws = x.look(8);
        C.due("to 1000", -1, x.years(40));
        C.due("year", 960, x.look(1));
        C.due("had", had, x.of(1, 3));
        C.due("draws", draws, x.look(8));
        C.due("to 998", true, x.years(38) >= 0);
        C.due("to 1000", -1, x.years(2));
        C.due("year", 998, x.look(1));
        C.due("to 999", true, x.years(1) >= 0);
        C.due("year", 999, x.look(1));
        C.due("to 1000", -1, x.years(1));
        C.due("year", 999, x.look(1));
        C.due("6 can be undone", 6, x.look(14));
        x.undo();
        C.due("undone", 998, x.look(1));
        C.due("again", true, x.years(1) >= 0);
    }

    @Says(promise = 7, words = "(a) Is WEAR at LIMIT or above, it rests")
    static void restsAtTheLimit() {
        int[] wear = {8, 9, 10, 24};
        int[] line = {0, 1, 1, 1};
        for (int i = 0; i < wear.length; i++) {
            SpareDay x = named(2);
            x.set(2, 0, 9);
            x.set(0, 0, wear[i]);
            C.due("given at " + wear[i], 1 - line[i], x.years(1));
            C.due("line at " + wear[i], line[i], x.book(0, 1));
        }
        SpareDay x = named(2);
        x.set(2, 0, 1);
        C.due("the least limit", 1, x.years(1));
        x.set(0, 0, 1);
        C.due("the least limit", 0, x.years(1));
        x.set(2, 0, 24);
        x.set(0, 0, 23);
        C.due("the greatest limit", 1, x.years(1));
        x.set(0, 0, 24);
        C.due("the greatest limit", 0, x.years(1));
    }

    @Says(promise = 7, words = "it rests: WEAR is REST less (0 at least)")
    static void restsToZero() {
        int[] rest = {0, 1, 11, 12, 13, 24};
        int[] behind = {12, 11, 1, 0, 0, 0};
        for (int i = 0; i < rest.length; i++) {
            SpareDay x = named(2);
            x.set(0, 0, 12);
            x.set(1, 0, rest[i]);
            C.due("it rests", 0, x.years(1));
            C.due("wear with rest " + rest[i], behind[i], x.look(2));
        }
    }

    @Says(promise = 7, words = "GIVEN is he with the greatest sum of those whose naming PEOPLE do for THE COUNCIL and whose sum is above 0")
    static void sumAboveZero() {
        SpareDay x = named(2);
        Check.tell(x, 0, "weight 1 when had = 0 and year = 0; weight 0;");
        C.due("1 is enough", 1, x.years(1));
        C.due("0 is not", 0, x.years(1));
        C.due("kept", 2, x.book(1, 1));
        Check.tell(x, 0, "weight 0 - 1;");
        C.due("nor is less, held to 0", 0, x.years(1));
        x = Check.people(4);
        Check.tell(x, 1, "0 names 3; 1 names 2; 2 names 3; 3 names 2;");
        Check.tell(x, 0, "weight 24 when person = 0; weight 12;");
        C.due("24 and 12 are more than 12 and 12", 3, x.look(15));
        Check.tell(x, 0, "weight 24 when person = 1; weight 12;");
        C.due("24 and 12 are more than 12 and 12", 2, x.look(15));
    }

    @Says(promise = 7, words = "those whose naming PEOPLE do for THE COUNCIL")
    static void councilIsAsked() {
        SpareDay x = Check.people(4);
        Check.tell(x, 1, "0 names 3; 1 names 3; 2 names 1;");
        Check.tell(x, 3, "most 2");
        C.due("two do", 3, x.look(15));
        Check.tell(x, 3, "most 3");
        C.due("two do not", -1, x.look(15));
        Check.tell(x, 3, "2");
        C.due("the greater sum does not, the less does", 1, x.look(15));
        Check.tell(x, 3, "3");
        C.due("nobody", -1, x.look(15));
        C.due("kept", 0, x.years(1));
        Check.tell(x, 3, "0 and 1");
        Check.tell(x, 0, "weight 0 when person = 0; weight 1;");
        C.due("one without weight does for the council all the same", 3, x.look(15));
    }

    @Says(promise = 7, words = "of several he with the greatest NEED, then the least")
    static void ofSeveral() {
        SpareDay x = Check.people(6);
        Check.tell(x, 1, "0 names 4; 1 names 2; 2 names 3;");
        C.due("all alike: the least", 2, x.look(15));
        x.set(3, 4, 6);
        C.due("the greatest need", 4, x.look(15));
        x.set(3, 3, 6);
        C.due("of two with the greatest need the least", 3, x.look(15));
        x.set(3, 5, 24);
        C.due("one who is not named does not count", 3, x.look(15));
        x.set(3, 2, 0);
        Check.tell(x, 0, "weight 2 when person = 1; weight 1;");
        C.due("a greater sum counts more than need", 2, x.look(15));
    }

    @Says(promise = 7, words = "Nobody: it is kept.")
    static void kept() {
        SpareDay x = Check.people(2);
        C.due("nobody names", 0, x.years(1));
        C.due("kept", 2, x.book(0, 1));
        C.due("no draw", 0, x.look(8));
        C.due("no wear", 0, x.look(2));
        C.due("year", 1, x.look(1));
        x.set(0, 0, 7);
        x.years(1);
        C.due("kept, it does not rest", 7, x.look(2));
    }

    @Says(promise = 7, words = "weights (asked ahead)")
    static void weightsAreAskedAhead() {
        SpareDay x = Check.people(3);
        Check.tell(x, 1, "0 names 1; 1 names 2;");
        Check.tell(x, 0, "weight 5 when person = 0 and year = 0 and worn = 0 and since = 0 and had = 0 and age = 30; weight 1; wear 0;");
        x.years(2);
        C.due("as it is at first", 1, x.book(0, 2));
        C.due("a year on 1 each", 1, x.book(1, 2));
        C.due("the least of two", 2, x.of(1, 3));
        Check.tell(x, 0, "weight used + 3 when used = 0; wear 0;");
        C.due("0 used", 3, x.of(0, 7));
    }

    @Says(promise = 7, words = "He does the WORKS of PLAN (told below): they are DONE, WORTH is theirs more")
    static void worksInTheHours() {
        int[] wear = {14, 15, 18, 19, 0};
        int[] worth = {12, 9, 9, 0, 12};
        int[] used = {10, 6, 6, 0, 10};
        for (int i = 0; i < wear.length; i++) {
            SpareDay x = named(2);
            Check.tell(x, 2, CHAIN);
            x.set(2, 0, 24);
            x.set(0, 0, wear[i]);
            x.years(1);
            C.due("worth with wear " + wear[i], worth[i], x.look(6));
            C.due("hours with wear " + wear[i], used[i], x.book(0, 3));
            C.due("the first done", worth[i] >= 9 ? 1 : 0, x.work(0, 6));
            C.due("that behind it done", worth[i] == 12 ? 1 : 0, x.work(2, 6));
            C.due("not the other one's", 0, x.work(1, 6));
        }
    }

    @Says(promise = 7, words = "HAD is one more, SINCE 0, that of all others one more (if it rests or is kept: of all)")
    static void sinceOfAll() {
        SpareDay x = named(3);
        x.set(0, 0, 12);
        x.years(1);
        for (int p = 0; p < 3; p++) {
            C.due("rested", 1, x.of(p, 4));
            C.due("had", 0, x.of(p, 3));
        }
        x.years(1);
        int[] since = {2, 0, 2};
        for (int p = 0; p < 3; p++) {
            C.due("given", since[p], x.of(p, 4));
            C.due("had", p == 1 ? 1 : 0, x.of(p, 3));
        }
        Check.tell(x, 1, "");
        x.years(1);
        for (int p = 0; p < 3; p++) {
            C.due("kept", since[p] + 1, x.of(p, 4));
            C.due("had", p == 1 ? 1 : 0, x.of(p, 3));
        }
    }

    @Says(promise = 7, words = "WEAR is wear more (24 at most)")
    static void wearAtMost() {
        int[] wear = {0, 22, 23, 24, 9999};
        int[] behind = {1, 23, 24, 24, 24};
        for (int i = 0; i < wear.length; i++) {
            SpareDay x = named(2);
            x.set(0, 0, 1);
            Check.tell(x, 0, "wear " + wear[i] + ";");
            x.years(1);
            C.due("wear " + wear[i], behind[i], x.look(2));
        }
    }

    @Says(promise = 7, words = "a DRAW of 1000: below notice")
    static void belowNotice() {
        int[] notice = {0, 562, 563, 564, 1000, 9999};
        int[] noticed = {0, 0, 0, 1, 1, 1};
        for (int i = 0; i < notice.length; i++) {
            SpareDay x = named(2);
            Check.tell(x, 0, "notice " + notice[i] + ";");
            x.years(1);
            C.due("notice " + notice[i], noticed[i], x.look(5));
            C.due("lines", 1 + noticed[i], x.look(7));
            C.due("a draw in each case", 1013904223, x.look(8));
        }
        SpareDay x = named(2);
        Check.tell(x, 0, "notice 0; wear 0;");
        x.state(MAX);
        C.due("given", 40, x.years(40));
        C.due("never", 0, x.look(5));
        Check.tell(x, 0, "notice 1000; wear 0;");
        C.due("given", 40, x.years(40));
        C.due("always", 40, x.look(5));
    }

    @Says(promise = 7, words = "(both asked behind the WORKS, ahead of HAD's and SINCE's changes)")
    static void askedBehindTheWorks() {
        SpareDay x = named(2);
        Check.tell(x, 2, CHAIN);
        x.years(1);
        Check.tell(x, 2, CHAIN);
        x.years(1);
        Check.tell(x, 1, "");
        x.years(3);
        Check.tell(x, 1, "0 names 1;");
        Check.tell(x, 2, CHAIN);
        x.set(0, 0, 4);
        Check.tell(x, 0, "wear 7 when had = 2 and since = 3 and used = 10 and worn = 4 and age = 35 and year = 5; wear 1;"
                + "notice 1000 when had = 2 and since = 3 and used = 10 and worn = 4 and age = 35 and year = 5; notice 0;");
        int noticed = x.look(5);
        C.due("given", 1, x.years(1));
        C.due("wear", 11, x.look(2));
        C.due("noticed", noticed + 1, x.look(5));
        C.due("changed then", 3, x.of(1, 3));
    }

    @Says(promise = 7, words = "(d) AGE of all is one more (99 at most), YEAR one more.")
    static void ageAtMost() {
        SpareDay x = named(4);
        x.set(5, 0, 97);
        x.set(5, 1, 98);
        x.set(5, 2, 99);
        x.set(5, 3, 0);
        x.years(1);
        int[] once = {98, 99, 99, 1};
        for (int p = 0; p < 4; p++) {
            C.due("given", once[p], x.of(p, 0));
        }
        x.set(0, 0, 24);
        x.years(1);
        int[] twice = {99, 99, 99, 2};
        for (int p = 0; p < 4; p++) {
            C.due("rested", twice[p], x.of(p, 0));
        }
        Check.tell(x, 1, "");
        x.set(0, 0, 0);
        x.years(1);
        C.due("kept", 3, x.of(3, 0));
        C.due("99 at most", 99, x.of(0, 0));
        C.due("year", 3, x.look(1));
    }
}
