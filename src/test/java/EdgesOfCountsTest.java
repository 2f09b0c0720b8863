import java.io.IOException;

/** Promises 26 to 38: a test for each sentence of DOC.md that names an edge. */
public final class EdgesOfCountsTest {
    private static final Check C = new Check();
    private static final int MAX = Integer.MAX_VALUE;
    private static final int MIN = Integer.MIN_VALUE;

    public static void main(String[] args) throws IOException {
        Edges.run(C, EdgesOfCountsTest.class, 26, 38);
    }

    /** So many PEOPLE, AGE 30 and NEED 5, of whom 0 names 1; the day does not wear. */
    private static SpareDay named(int people) {
        SpareDay x = Check.people(people);
        Check.tell(x, 0, "wear 0;");
        Check.tell(x, 1, "0 names 1;");
        return x;
    }

    private static void giveTo(SpareDay x, int person, int years) {
        Check.tell(x, 1, (person == 0 ? 1 : 0) + " names " + person + ";");
        C.due("given to " + person, years, x.years(years));
    }

    // ---- 26: share

    private static void shared(SpareDay x, int a, int b, int toA, int toB) {
        C.due(a + " of " + a + " and " + b, toA, x.share(a, b, 0));
        C.due(b + " of " + a + " and " + b, toB, x.share(a, b, 1));
    }

    @Says(promise = 26, words = "NONE if one can't be, or another what.")
    static void noSuchShare() {
        SpareDay x = new SpareDay();
        int[] wrong = {-1, 49, MIN, MAX};
        for (int v : wrong) {
            for (int what = 0; what <= 1; what++) {
                C.due("a " + v, -1, x.share(v, 0, what));
                C.due("b " + v, -1, x.share(0, v, what));
                C.due("both " + v, -1, x.share(v, v, what));
            }
        }
        int[] whats = {-1, 2, MIN, MAX};
        for (int what : whats) {
            C.due("what " + what, -1, x.share(1, 1, what));
        }
    }

    @Says(promise = 26, words = "SHARE of claims a and b (0 .. 48) on HOURS: what a gets and b gets, in halves of an hour")
    static void claims() {
        SpareDay x = new SpareDay();
        shared(x, 0, 0, 0, 0);
        shared(x, 48, 48, 24, 24);
        shared(x, 48, 0, 48, 0);
        shared(x, 0, 48, 0, 48);
        x.sit(1);
        shared(x, 48, 48, 23, 23);
        shared(x, 20, 4, 20 * 2 - 1, 4 * 2 - 1);
    }

    @Says(promise = 26, words = "if both claims together are not above HOURS, each all of his")
    static void notAboveHours() {
        SpareDay x = new SpareDay();
        shared(x, 12, 12, 24, 24);
        shared(x, 1, 23, 2, 46);
        shared(x, 24, 0, 48, 0);
        shared(x, 12, 13, 23, 25);
        shared(x, 2, 23, 3, 45);
        x.sit(14);
        shared(x, 4, 6, 8, 12);
        shared(x, 4, 7, 7, 13);
        shared(x, 3, 6, 6, 12);
    }

    @Says(promise = 26, words = "(HOURS less the other's claim, 0 at least, no more than his own claim), and half of what is left then")
    static void zeroAtLeast() {
        SpareDay x = new SpareDay();
        shared(x, 10, 24, 10, 38);
        shared(x, 10, 25, 10, 38);
        shared(x, 10, 48, 10, 38);
        shared(x, 10, 23, 11, 37);
        shared(x, 24, 24, 24, 24);
        shared(x, 25, 30, 24, 24);
        shared(x, 48, 1, 47, 1);
    }

    @Says(promise = 26, words = "HOURS: 24 less WEAR.")
    static void noHours() {
        SpareDay x = new SpareDay();
        x.sit(24);
        shared(x, 0, 0, 0, 0);
        shared(x, 48, 1, 0, 0);
        x.set(0, 0, 23);
        shared(x, 1, 0, 2, 0);
        shared(x, 1, 1, 1, 1);
        shared(x, 1, 48, 1, 1);
    }

    // ---- 27: bid

    @Says(promise = 27, words = "A BID (person NONE: none is then): how many; NONE if one can't be, or there are eight.")
    static void eightBids() {
        SpareDay x = Check.people(2);
        for (int i = 1; i <= 8; i++) {
            C.due("bid", i, x.bid(1, 100 + i));
        }
        C.due("a ninth", -1, x.bid(0, 9999));
        C.due("eight", 8, x.look(13));
        C.due("the ninth does not count", 1, x.sold(0));
        C.due("none is then", 0, x.bid(-1, 0));
        C.due("none", 0, x.look(13));
        C.due("none again", 0, x.bid(-1, 0));
        C.due("one", 1, x.bid(0, 5));
        C.due("those of before are gone", 0, x.sold(1));
    }

    @Says(promise = 27, words = "BID: of up to 8 BIDS (a PERSON, 0 .. 9999)")
    static void bidsBounds() {
        SpareDay x = Check.people(2);
        int[] wrong = {-1, 10000, MIN, MAX};
        for (int v : wrong) {
            C.due("bid " + v, -1, x.bid(0, v));
        }
        int[] who = {-2, 2, 10, MIN, MAX};
        for (int p : who) {
            C.due("bid of " + p, -1, x.bid(p, 1));
        }
        C.due("none was a bid", 0, x.look(13));
        C.due("least", 1, x.bid(0, 0));
        C.due("greatest", 2, x.bid(1, 9999));
        C.due("sold", 1, x.sold(0));
        C.due("for nothing", 0, x.sold(1));
        SpareDay y = new SpareDay();
        C.due("without people", -1, y.bid(0, 1));
    }

    // ---- 28: sold

    @Says(promise = 28, words = "NONE without BIDS, or for another what.")
    static void withoutBids() {
        SpareDay x = Check.people(2);
        C.due("who", -1, x.sold(0));
        C.due("what he pays", -1, x.sold(1));
        x.bid(1, 7);
        int[] wrong = {-1, 2, MIN, MAX};
        for (int what : wrong) {
            C.due("what " + what, -1, x.sold(what));
        }
        x.bid(-1, 7);
        C.due("who", -1, x.sold(0));
        C.due("what he pays", -1, x.sold(1));
    }

    @Says(promise = 28, words = "he with the greatest (of several the first) pays the second greatest (0 without a second one)")
    static void theSecondGreatest() {
        SpareDay x = Check.people(4);
        int[][] bids = {{2, 0, 2, 0}, {1, 0, 2, 0}, {3, 50, 3, 0}, {0, 50, 3, 50}, {1, 40, 3, 50}, {2, 51, 2, 50}, {2, 60, 2, 51}, {0, 60, 2, 60}};
        for (int[] bid : bids) {
            x.bid(bid[0], bid[1]);
            C.due("who behind " + bid[1], bid[2], x.sold(0));
            C.due("pays behind " + bid[1], bid[3], x.sold(1));
        }
        x.bid(-1, 0);
        x.bid(3, 9);
        C.due("without a second", 3, x.sold(0));
        C.due("0", 0, x.sold(1));
        x.bid(3, 8);
        C.due("his own second", 8, x.sold(1));
    }

    // ---- 29: rests

    @Says(promise = 29, words = "RESTS; NONE if one can't be.")
    static void restsBounds() {
        SpareDay x = new SpareDay();
        int[] wrong = {0, -1, 25, MIN, MAX};
        for (int w : wrong) {
            C.due("by " + w, -1, x.rests(w));
        }
        C.due("by 1", 12, x.rests(1));
        C.due("by 24", 1, x.rests(24));
        x.sit(24);
        for (int w : wrong) {
            C.due("there, by " + w, -1, x.rests(w));
        }
    }

    @Says(promise = 29, words = "if each YEAR w (1 .. 24) more wear comes (0: is there)")
    static void restsNow() {
        SpareDay x = new SpareDay();
        int[] wear = {10, 11, 12, 13, 24};
        int[] years = {2, 1, 0, 0, 0};
        for (int i = 0; i < wear.length; i++) {
            x.set(0, 0, wear[i]);
            C.due("at " + wear[i], years[i], x.rests(1));
            C.due("at " + wear[i] + " by 24", Math.min(1, years[i]), x.rests(24));
        }
        x.set(0, 0, 0);
        x.set(2, 0, 24);
        int[] by = {1, 5, 11, 12, 13, 23, 24};
        int[] in = {24, 5, 3, 2, 2, 2, 1};
        for (int i = 0; i < by.length; i++) {
            C.due("24 by " + by[i], in[i], x.rests(by[i]));
        }
        x.set(2, 0, 1);
        C.due("1 by 24", 1, x.rests(24));
    }

    // ---- 30: weekday

    @Says(promise = 30, words = "WEEKDAY; NONE if one can't be.")
    static void weekdaysBounds() {
        SpareDay x = new SpareDay();
        int[] most = {364, 999, 1, 364};
        for (int i = 0; i < 4; i++) {
            int[] wrong = {-1, most[i] + 1, MIN, MAX};
            for (int w : wrong) {
                int[] a = {3, 3, 1, 3};
                a[i] = w;
                C.due("argument " + i + " " + w, -1, x.weekday(a[0], a[1], a[2], a[3]));
            }
        }
        C.due("least", 0, x.weekday(0, 0, 0, 0));
        C.due("greatest", (365 * 999 + 364 + 1000) % 7, x.weekday(364, 999, 1, 364));
    }

    @Says(promise = 30, words = "(365 y + d, and k times y, and k more, if d is at m, told, or behind it) modulo 7")
    static void atOrBehind() {
        SpareDay x = new SpareDay();
        int[] day = {99, 100, 101, 0, 364};
        int[] with = {99 % 7, 101 % 7, 102 % 7, 0, 365 % 7};
        for (int i = 0; i < day.length; i++) {
            C.due("day " + day[i], with[i], x.weekday(day[i], 0, 1, 100));
            C.due("day " + day[i] + " without", day[i] % 7, x.weekday(day[i], 0, 0, 100));
        }
        C.due("at 0", 1, x.weekday(0, 0, 1, 0));
        C.due("a week", 0, x.weekday(7, 0, 0, 0));
        C.due("year 1 without", 1, x.weekday(0, 1, 0, 1));
        C.due("year 1 with", 2, x.weekday(0, 1, 1, 1));
        C.due("year 7 without", 0, x.weekday(0, 7, 0, 1));
        C.due("year 999 with", 366 * 999 % 7, x.weekday(0, 999, 1, 1));
    }

    // ---- 31: next

    @Says(promise = 31, words = "NEXT; NONE if there is none.")
    static void noneIsNext() {
        SpareDay x = named(2);
        C.due("without people", -1, new SpareDay().next());
        giveTo(x, 0, 1);
        C.due("the other", 1, x.next());
        giveTo(x, 1, 1);
        C.due("all had it", -1, x.next());
        x.person(0, 0);
        C.due("who came then", 2, x.next());
    }

    @Says(promise = 31, words = "he with the greatest NEED, of several the oldest, then the least")
    static void theOldest() {
        SpareDay x = new SpareDay();
        int[][] come = {{50, 0, 0}, {50, 0, 0}, {51, 0, 2}, {0, 1, 3}, {99, 0, 3}, {1, 1, 5}, {1, 1, 5}, {0, 24, 7}, {99, 24, 8}, {99, 24, 8}};
        for (int[] p : come) {
            x.person(p[0], p[1]);
            C.due("of " + x.look(0), p[2], x.next());
        }
        x.set(5, 7, 99);
        C.due("of three alike the least", 7, x.next());
    }

    // ---- 32: due

    @Says(promise = 32, words = "DUE what 0 NEED, 1 the YEARS (NONE: there is none such). NONE for another what.")
    static void noneIsDue() {
        SpareDay x = named(2);
        int[] wrong = {-1, 2, MIN, MAX};
        for (int what : wrong) {
            C.due("what " + what, -1, x.due(what));
        }
        C.due("need", 10, x.due(0));
        C.due("years", 999, x.due(1));
        giveTo(x, 0, 1);
        giveTo(x, 1, 1);
        C.due("all had it", 0, x.due(0));
        C.due("all had it", -1, x.due(1));
        C.due("without people", 0, new SpareDay().due(0));
        C.due("without people", -1, new SpareDay().due(1));
    }

    @Says(promise = 32, words = "(of those whose BY is not behind)")
    static void byIsNotBehind() {
        SpareDay x = named(3);
        Check.tell(x, 1, "");
        x.years(10);
        int[][] by = {{9, 10, 11, 0}, {9, 11, 12, 1}, {9, 9, 12, 2}, {9, 9, 9, -1}, {0, 999, 9, 989}, {10, 10, 10, 0}};
        for (int[] b : by) {
            for (int p = 0; p < 3; p++) {
                x.set(4, p, b[p]);
            }
            C.due("by " + b[0] + " " + b[1] + " " + b[2], b[3], x.due(1));
            C.due("need all the same", 15, x.due(0));
        }
    }

    @Says(promise = 32, words = "DUE: the NEED of all who never HAD it, added")
    static void neverHadIt() {
        SpareDay x = named(10);
        for (int p = 0; p < 10; p++) {
            x.set(3, p, 24);
        }
        C.due("ten times 24", 240, x.due(0));
        x.set(4, 1, 3);
        C.due("by 3", 3, x.due(1));
        giveTo(x, 1, 1);
        C.due("nine times 24", 216, x.due(0));
        C.due("he had it", 998, x.due(1));
    }

    // ---- 33: doers

    @Says(promise = 33, words = "2 VETO (a set). NONE for another what.")
    static void doersOfAnotherWhat() {
        SpareDay x = Check.people(3);
        int[] wrong = {-1, 3, MIN, MAX};
        for (int what : wrong) {
            C.due("what " + what, -1, x.doers(what));
        }
    }

    @Says(promise = 33, words = "VETO: those who are in all that do (a set; none do: all PEOPLE)")
    static void noneDo() {
        SpareDay x = Check.people(3);
        Check.tell(x, 3, "most 4");
        C.due("none", 0, x.doers(0));
        C.due("none", 0, x.doers(1));
        C.due("all people", 7, x.doers(2));
        Check.tell(x, 3, "most 3");
        C.due("one", 1, x.doers(0));
        C.due("all people", 7, x.doers(2));
        Check.tell(x, 3, "1 and (0 or 2)");
        C.due("three", 3, x.doers(0));
        C.due("1", 2, x.doers(2));
        Check.tell(x, 3, "0 or 1");
        C.due("nobody is in all", 0, x.doers(2));
        SpareDay y = new SpareDay();
        Check.tell(y, 3, "most 1");
        C.due("without people", 0, y.doers(0));
        C.due("all of nobody", 0, y.doers(2));
    }

    @Says(promise = 33, words = "how many of these do no more without any one of them")
    static void withoutAnyOne() {
        SpareDay x = Check.people(4);
        C.due("empty: the empty set, of which there is no one", 1, x.doers(1));
        C.due("all sets", 16, x.doers(0));
        Check.tell(x, 3, "0 and 1 or 2 and 3");
        C.due("01, 23", 2, x.doers(1));
        C.due("those with more", 7, x.doers(0));
        Check.tell(x, 3, "0 or 0 and 1");
        C.due("0", 1, x.doers(1));
        Check.tell(x, 3, "most 2");
        C.due("pairs", 6, x.doers(1));
        x = Check.people(10);
        Check.tell(x, 3, "most 10");
        C.due("all", 1, x.doers(1));
        Check.tell(x, 3, "most 1");
        C.due("each alone", 10, x.doers(1));
        C.due("all sets but one", 1023, x.doers(0));
    }

    // ---- 34: thieves

    @Says(promise = 34, words = "THIEVES: PEOPLE of whom some set FITS (a set).")
    static void someSetFits() {
        C.due("without people", 0, new SpareDay().thieves());
        SpareDay x = Check.people(10);
        C.due("the empty set fits no traces", 1023, x.thieves());
        x.traces(1, 0);
        C.due("nobody", 0, x.thieves());
        Check.tell(x, 2, "work9for1worth0dust1wax0;work0for1worth0dust1wax0;work5for1worth0dust1wax1;work8for1worth0dust0wax9;");
        C.due("the first and the last", 513, x.thieves());
        x.traces(1, 1);
        C.due("5", 32, x.thieves());
        x.traces(0, 0);
        C.due("all", 1023, x.thieves());
    }

    // ---- 35: soonest

    @Says(promise = 35, words = "SOONEST; NONE if in none, or there is no such PERSON.")
    static void inNone() {
        SpareDay x = named(3);
        C.due("he", 0, x.soonest(1));
        C.due("whom nobody names", -1, x.soonest(0));
        int[] who = {-1, 3, 10, MIN, MAX};
        for (int p : who) {
            C.due("of " + p, -1, x.soonest(p));
        }
        x.set(1, 0, 0);
        x.set(0, 0, 24);
        C.due("it rests for ever, and NONE is nobody", -1, x.soonest(1));
        C.due("of NONE", -1, x.soonest(-1));
        C.due("of the sign for rest", -1, x.soonest(-2));
    }

    @Says(promise = 35, words = "the first of the next 40 YEARS (0 this one) in which he would be GIVEN, in thought")
    static void theNextForty() {
        SpareDay x = named(2);
        int[] year = {0, 1, 38, 39, 40, 41};
        int[] in = {0, 1, 38, 39, -1, -1};
        for (int i = 0; i < year.length; i++) {
            Check.tell(x, 0, "wear 0; weight 1 when year = " + year[i] + "; weight 0;");
            C.due("given in " + year[i], in[i], x.soonest(1));
        }
        x.years(2);
        C.due("two years on", 39, x.soonest(1));
        C.due("nothing stays", 2, x.look(1));
    }

    // ---- 36: spread

    @Says(promise = 36, words = "What 0 SPREAD (0 without PEOPLE), 1 LATEST (NONE). NONE for another what.")
    static void withoutPeople() {
        SpareDay x = new SpareDay();
        C.due("spread", 0, x.spread(0));
        C.due("latest", -1, x.spread(1));
        x.person(1, 1);
        x.person(1, 1);
        C.due("nobody had it", 0, x.spread(0));
        C.due("nobody had it", -1, x.spread(1));
        int[] wrong = {-1, 2, MIN, MAX};
        for (int what : wrong) {
            C.due("what " + what, -1, x.spread(what));
        }
    }

    @Says(promise = 36, words = "SPREAD: the greatest HAD less the least.")
    static void theGreatestLessTheLeast() {
        SpareDay x = named(3);
        giveTo(x, 2, 5);
        C.due("5 and 0", 5, x.spread(0));
        giveTo(x, 1, 2);
        C.due("5 and 0", 5, x.spread(0));
        giveTo(x, 0, 1);
        C.due("5 and 1", 4, x.spread(0));
        giveTo(x, 0, 8);
        C.due("9 and 2", 7, x.spread(0));
        x.person(1, 1);
        C.due("9 and 0", 9, x.spread(0));
        C.due("one alone", 0, named(1).spread(0));
    }

    @Says(promise = 36, words = "LATEST: of those who HAD it he with the least SINCE, of several the least.")
    static void theLeastSince() {
        SpareDay x = named(3);
        x.years(1);
        C.due("he alone had it", 1, x.spread(1));
        giveTo(x, 2, 1);
        C.due("the later", 2, x.spread(1));
        giveTo(x, 0, 1);
        C.due("the later", 0, x.spread(1));
        x.person(1, 1);
        C.due("who never had it does not count", 0, x.spread(1));
        Check.tell(x, 1, "");
        x.years(5);
        C.due("kept", 0, x.spread(1));
        giveTo(x, 1, 1);
        C.due("the later", 1, x.spread(1));
    }

    // ---- 37: way

    @Says(promise = 37, words = "WAY; NONE if none, or one can't be.")
    static void noWay() {
        SpareDay x = Check.people(4);
        x.tie(0, 1, true);
        x.tie(2, 3, true);
        C.due("none", -1, x.way(0, 2));
        C.due("none", -1, x.way(3, 1));
        int[] who = {-1, 4, 10, 31, 32, MIN, MAX};
        for (int p : who) {
            C.due("to " + p, -1, x.way(0, p));
            C.due("of " + p, -1, x.way(p, 0));
            C.due("himself " + p, -1, x.way(p, p));
        }
        x.tie(1, 2, true);
        C.due("three", 3, x.way(0, 3));
        x.tie(1, 2, false);
        C.due("none again", -1, x.way(0, 3));
    }

    @Says(promise = 37, words = "WAY of a to b by TIES: the fewest TIES (0: himself).")
    static void theFewestTies() {
        SpareDay x = Check.people(10);
        C.due("himself", 0, x.way(0, 0));
        C.due("himself", 0, x.way(9, 9));
        for (int p = 9; p > 0; p--) {
            x.tie(p, p - 1, true);
        }
        for (int p = 0; p < 10; p++) {
            C.due("in a row", p, x.way(0, p));
            C.due("back", p, x.way(p, 0));
        }
        x.tie(0, 9, true);
        C.due("in a ring", 1, x.way(0, 9));
        C.due("in a ring", 5, x.way(0, 5));
        C.due("in a ring", 4, x.way(0, 6));
    }

    // ---- 38: clique

    @Says(promise = 38, words = "CLIQUE what 0 how many, 1 the set. NONE for another what.")
    static void cliqueOfAnotherWhat() {
        SpareDay x = Check.people(2);
        int[] wrong = {-1, 2, MIN, MAX};
        for (int what : wrong) {
            C.due("what " + what, -1, x.clique(what));
        }
        SpareDay y = new SpareDay();
        C.due("without people", 0, y.clique(0));
        C.due("without people", 0, y.clique(1));
        C.due("what 2 of nobody", -1, y.clique(2));
    }

    @Says(promise = 38, words = "CLIQUE: the most PEOPLE of whom each two have a TIE; of several such sets the least.")
    static void theMostPeople() {
        SpareDay x = Check.people(10);
        C.due("without ties one", 1, x.clique(0));
        C.due("the least", 1, x.clique(1));
        x.tie(8, 9, true);
        C.due("two", 768, x.clique(1));
        x.tie(0, 9, true);
        C.due("of two such the least", 513, x.clique(1));
        x.tie(0, 5, true);
        x.tie(5, 8, true);
        C.due("a ring of four is none", 2, x.clique(0));
        C.due("of four such the least", 33, x.clique(1));
        for (int a = 0; a < 10; a++) {
            for (int b = 0; b < a; b++) {
                x.tie(a, b, true);
            }
        }
        C.due("all ten", 10, x.clique(0));
        C.due("all ten", 1023, x.clique(1));
        x.tie(9, 8, false);
        C.due("nine", 9, x.clique(0));
        C.due("the least", 511, x.clique(1));
        x.tie(0, 1, false);
        C.due("eight", 8, x.clique(0));
        C.due("without 1 and 9", 509, x.clique(1));
    }
}
