/** One run at least for each of the promises 1 to 41: ordinary inputs, edges, wrong inputs. */
public final class PromisesTest {
    private static final Check C = new Check();
    private static final int MAX = Integer.MAX_VALUE;
    private static final int MIN = Integer.MIN_VALUE;

    public static void main(String[] args) {
        aNewObject();
        state();
        person();
        set();
        tie();
        sit();
        years();
        aYearGiven();
        aYearThatRestsOrIsKept();
        whoIsGiven();
        feed();
        end();
        text();
        of();
        after();
        work();
        book();
        bookIsFull();
        does();
        plan();
        given();
        can();
        fewest();
        hinge();
        turnsOf();
        traces();
        fits();
        lookAt();
        share();
        bid();
        sold();
        rests();
        weekday();
        next();
        due();
        doers();
        thieves();
        soonest();
        spread();
        way();
        clique();
        undo();
        undoForgets();
        image();
        look();
        C.finish();
    }

    // Promise 1
    private static void aNewObject() {
        SpareDay x = new SpareDay();
        C.due("NONE", -1, SpareDay.NONE);
        int[] first = {0, 0, 0, 2, 12, 0, 0, 0, 0, 0, 0, 0, 0, 0, 0, -1, 0, 0};
        for (int i = 0; i < first.length; i++) {
            C.due("new look " + i, first[i], x.look(i));
        }
        C.due("nobody", -2, x.of(0, 0));
        C.due("any set does", true, x.does(0));
        C.due("no image", false, x.image(false));
        C.due("no past", false, x.undo());
        C.due("no fault", 0, x.fault(0));
        C.due("no place", -1, x.fault(1));
        C.due("empty tape", 20, x.feed(0, 0, 0, 0, 0));
        C.due("no council's sets but none", 1, x.doers(0));
    }

    // Promise 2
    private static void state() {
        SpareDay x = new SpareDay();
        C.due("state first", 0, x.state(77));
        C.due("state then", 77, x.state(MIN));
        C.due("state least", MIN, x.look(8));
        C.due("state greatest", MIN, x.state(MAX));
        C.due("state is as told", MAX, x.look(8));
    }

    // Promise 3
    private static void person() {
        SpareDay x = new SpareDay();
        C.due("person too old", -1, x.person(100, 0));
        C.due("person unborn", -1, x.person(-1, 0));
        C.due("person needs too much", -1, x.person(0, 25));
        C.due("person needs too little", -1, x.person(0, -1));
        C.due("nobody came", 0, x.look(0));
        C.due("person 0", 0, x.person(99, 24));
        C.due("person 1", 1, x.person(0, 0));
        int[] first = {0, 0, 999, 0, 0, -1, 0, 1, 0};
        for (int i = 0; i < first.length; i++) {
            C.due("of a new person " + i, first[i], x.of(1, i));
        }
        C.due("age", 99, x.of(0, 0));
        C.due("need", 24, x.of(0, 1));
        for (int i = 2; i < 10; i++) {
            C.due("person", i, x.person(i, i));
        }
        C.due("the eleventh", -1, x.person(1, 1));
        C.due("ten", 10, x.look(0));
    }

    // Promise 4
    private static void set() {
        SpareDay x = Check.people(2);
        int[] look = {2, 3, 4};
        int[] least = {0, 0, 1, 0, 0, 0};
        int[] greatest = {24, 24, 24, 24, 999, 99};
        int[] of = {0, 0, 0, 1, 2, 0};
        for (int what = 0; what < 6; what++) {
            int who = what < 3 ? -7 : 1;
            C.due("set least " + what, true, x.set(what, who, least[what]));
            C.due("is least " + what, least[what], what < 3 ? x.look(look[what]) : x.of(1, of[what]));
            C.due("set below " + what, false, x.set(what, who, least[what] - 1));
            C.due("set greatest " + what, true, x.set(what, who, greatest[what]));
            C.due("set above " + what, false, x.set(what, who, greatest[what] + 1));
            C.due("set far below " + what, false, x.set(what, who, MIN));
            C.due("is greatest " + what, greatest[what], what < 3 ? x.look(look[what]) : x.of(1, of[what]));
        }
        for (int what = 3; what < 6; what++) {
            C.due("set of nobody", false, x.set(what, 2, 1));
            C.due("set of none", false, x.set(what, -1, 1));
        }
        C.due("set another", false, x.set(6, 0, 1));
        C.due("set another", false, x.set(-1, 0, 1));
        x.set(5, 1, 9);
        x.set(4, 1, 8);
        x.set(3, 1, 7);
        C.due("each alone", 7, x.of(1, 1));
        C.due("each alone", 8, x.of(1, 2));
        C.due("each alone", 9, x.of(1, 0));
        C.due("each alone", 24, x.look(2));
        C.due("others as they were", 5, x.of(0, 1));
        C.due("others as they were", 30, x.of(0, 0));
        C.due("others as they were", 999, x.of(0, 2));
    }

    // Promise 5
    private static void tie() {
        SpareDay x = Check.people(3);
        C.due("untied already", false, x.tie(0, 1, false));
        C.due("tie", true, x.tie(0, 1, true));
        C.due("tied already", false, x.tie(1, 0, true));
        C.due("tie himself", false, x.tie(2, 2, true));
        C.due("untie himself", false, x.tie(2, 2, false));
        C.due("tie nobody", false, x.tie(0, 3, true));
        C.due("tie nobody", false, x.tie(3, 0, true));
        C.due("tie none", false, x.tie(-1, 0, true));
        C.due("tie none", false, x.tie(0, -1, true));
        C.due("tie another", true, x.tie(2, 0, true));
        C.due("ties of 0", 6, x.of(0, 6));
        C.due("ties of 1", 1, x.of(1, 6));
        C.due("ties of 2", 1, x.of(2, 6));
        C.due("untie", true, x.tie(1, 0, false));
        C.due("ties of 0", 4, x.of(0, 6));
        C.due("ties of 1", 0, x.of(1, 6));
        C.due("what can be undone", 3, x.look(14));
    }

    // Promise 6
    private static void sit() {
        SpareDay x = new SpareDay();
        C.due("sit 0", -1, x.sit(0));
        C.due("sit 25", -1, x.sit(25));
        C.due("sit less", -1, x.sit(-1));
        C.due("sat not", 0, x.look(14));
        C.due("sit 1", 1, x.sit(1));
        C.due("sit 22", 23, x.sit(22));
        C.due("sit 24", 24, x.sit(24));
        C.due("sit at 24", 24, x.sit(1));
        C.due("wear", 24, x.look(2));
        C.due("each can be undone", 4, x.look(14));
    }

    // Promise 7
    private static void years() {
        SpareDay x = Check.people(1);
        C.due("years 0", -1, x.years(0));
        C.due("years 41", -1, x.years(41));
        C.due("years less", -1, x.years(MIN));
        C.due("years more", -1, x.years(MAX));
        C.due("none went by", 0, x.look(1));
        for (int i = 0; i < 24; i++) {
            C.due("40 years kept", 0, x.years(40));
        }
        C.due("960", 960, x.look(1));
        C.due("beyond 999", -1, x.years(40));
        C.due("nothing is done", 960, x.look(1));
        C.due("to 999", 0, x.years(39));
        C.due("999", 999, x.look(1));
        C.due("beyond 999", -1, x.years(1));
        C.due("999", 999, x.look(1));
        C.due("age ends", 99, x.of(0, 0));
        C.due("since does not", 999, x.of(0, 4));
        x = Check.people(2);
        Check.tell(x, 1, "1 names 0;");
        C.due("how often it was given, to 0 too", 5, x.years(5));
        Check.tell(x, 1, "");
        C.due("kept", 0, x.years(5));
    }

    private static SpareDay withWorks() {
        SpareDay x = Check.people(3);
        C.due("voices", 2, Check.tell(x, 1, "0 names 2;1 names 2;"));
        C.due("works", 4, Check.tell(x, 2, "work 2 for 6 worth 9 dust 1 wax 2; work 0 for 1 worth 1 dust 0 wax 0;"
                + "work 2 for 4 worth 3 dust 2 wax 1 after 0; work 2 for 20 worth 8 dust 3 wax 3;"));
        return x;
    }

    private static void aYearGiven() {
        SpareDay x = withWorks();
        x.set(0, 0, 5);
        Check.tell(x, 0, "wear used - 8 + had * 9 + worn;"
                + "notice 1000 when since = 0 and had = 0 and worn = 5 and age = 30 and ties = 0 and person = 2 and year = 0 and need = 5 and used = 10; notice 0;");
        C.due("a year", 1, x.years(1));
        C.due("wear asked ahead of the changes: 5 and 7 more", 12, x.look(2));
        C.due("noticed", 1, x.look(5));
        C.due("worth", 12, x.look(6));
        C.due("year", 1, x.look(1));
        C.due("a draw", 1013904223, x.look(8));
        int[] had = {0, 0, 1};
        int[] since = {1, 1, 0};
        int[] done = {1, 0, 1, 0};
        for (int p = 0; p < 3; p++) {
            C.due("had " + p, had[p], x.of(p, 3));
            C.due("since " + p, since[p], x.of(p, 4));
            C.due("age " + p, 31, x.of(p, 0));
        }
        for (int i = 0; i < 4; i++) {
            C.due("done " + i, done[i], x.work(i, 6));
        }
        int[][] lines = {{0, 0, 2, 10}, {0, 3, 0, 6}, {0, 3, 2, 4}, {0, 4, 2, 0}};
        for (int i = 0; i < 4; i++) {
            for (int what = 0; what < 4; what++) {
                C.due("line " + i + " " + what, lines[i][what], x.book(i, what));
            }
        }
        C.due("lines", 4, x.look(7));
        C.due("it rests", 0, x.years(1));
        C.due("less by 2", 10, x.look(2));
        C.due("resting draws not", 1013904223, x.look(8));
        C.due("wear by had: 9 more, less 8, 10 more", 1, x.years(1));
        C.due("wear", 21, x.look(2));
        drawsAgainstNotice();
    }

    /** 1013904223 >>> 8 is 3960563, and so the first DRAW of 1000 is 563. */
    private static void drawsAgainstNotice() {
        for (int notice = 563; notice <= 564; notice++) {
            SpareDay x = withWorks();
            Check.tell(x, 0, "notice " + notice + ";");
            x.years(1);
            C.due("noticed below " + notice, notice - 563, x.look(5));
        }
        SpareDay x = withWorks();
        Check.tell(x, 0, "notice 500;");
        x.state(-1);
        x.years(1);
        C.due("a draw of -1", 1012239698, x.look(8));
        C.due("no sign: 3954061 leaves 61", 1, x.look(5));
        x = withWorks();
        Check.tell(x, 0, "notice 500;");
        x.state(1013904223);
        x.years(1);
        C.due("a draw below 0", 1196435762, x.look(8));
        C.due("4673577 leaves 577", 0, x.look(5));
        x.years(1);
        int third = 1664525 * 1196435762 + 1013904223;
        C.due("the third", third, x.look(8));
        C.due("below 0", true, third < 0);
        C.due("its highest bits, without a sign", 1, x.look(5));
        x.undo();
        C.due("not yet", 0, x.look(5));
        Check.tell(x, 0, "notice " + (third >>> 8) % 1000 + ";");
        x.years(1);
        C.due("not below itself", 0, x.look(5));
        x.undo();
        Check.tell(x, 0, "notice " + ((third >>> 8) % 1000 + 1) + ";");
        x.years(1);
        C.due("below one more", 1, x.look(5));
        x = withWorks();
        x.years(1);
        C.due("without a line: used by 8", 10 / 8, x.look(2));
        x = withWorks();
        Check.tell(x, 0, "wear 24;");
        x.set(0, 0, 3);
        x.years(1);
        C.due("wear 24 at most", 24, x.look(2));
    }

    private static void aYearThatRestsOrIsKept() {
        SpareDay x = withWorks();
        x.set(1, 0, 5);
        x.set(2, 0, 9);
        x.set(0, 0, 9);
        C.due("at the limit it rests", 0, x.years(1));
        C.due("wear is less", 4, x.look(2));
        C.due("since of all", 1, x.of(2, 4));
        C.due("age of all", 31, x.of(2, 0));
        C.due("a line", 1, x.look(7));
        C.due("rested", 1, x.book(0, 1));
        C.due("nobody", -1, x.book(0, 2));
        C.due("no hours", 0, x.book(0, 3));
        Check.tell(x, 3, "0 and 2");
        C.due("nobody does", 0, x.years(1));
        C.due("wear as it was", 4, x.look(2));
        C.due("kept", 2, x.book(1, 1));
        C.due("its year", 1, x.book(1, 0));
        C.due("nobody", -1, x.book(1, 2));
        C.due("since of all", 2, x.of(1, 4));
        C.due("no draws", 0, x.look(8));
        x.set(1, 0, 24);
        x.set(0, 0, 20);
        x.years(1);
        C.due("0 at least", 0, x.look(2));
        Check.tell(x, 3, "");
        x.set(2, 0, 1);
        x.set(5, 0, 98);
        x.set(5, 1, 99);
        C.due("given", 1, x.years(1));
        C.due("age 99", 99, x.of(0, 0));
        C.due("age 99 at most", 99, x.of(1, 0));
        C.due("24 hours", 10, x.book(3, 3));
        C.due("a work", 3, x.book(4, 1));
    }

    private static void whoIsGiven() {
        SpareDay x = Check.people(6);
        Check.tell(x, 1, "0 names 3; 1 names 4; 2 names 5;");
        C.due("of several the least", 3, x.look(15));
        x.set(3, 5, 6);
        C.due("of several he with the greatest need", 5, x.look(15));
        Check.tell(x, 0, "weight 2 when person = 1; weight 1;");
        C.due("the greatest sum", 4, x.look(15));
        Check.tell(x, 3, "0 or 2");
        C.due("of those who do", 5, x.look(15));
        Check.tell(x, 3, "0");
        C.due("only 3 does", 3, x.look(15));
        Check.tell(x, 0, "weight 0 when person = 0;");
        C.due("a sum above 0", -1, x.look(15));
        Check.tell(x, 3, "");
        Check.tell(x, 0, "weight used;");
        C.due("a weight is asked with 0 used", -1, x.look(15));
        Check.tell(x, 0, "weight 0 - 5;");
        C.due("none above 0", -1, x.look(15));
        C.due("kept", 0, x.years(1));
        Check.tell(x, 0, "weight 0 when person = 0;");
        Check.tell(x, 1, "0 names 5; 1 names 5; 2 names 4; 3 names 4;");
        Check.tell(x, 3, "most 2 and 0 or most 3");
        C.due("one who weighs nothing counts for the council", 5, x.look(15));
        x.set(0, 0, 24);
        C.due("the limit is not asked", 5, x.look(15));
        C.due("but in a year", 0, x.years(1));
    }

    // Promise 8
    private static void feed() {
        SpareDay x = new SpareDay();
        for (int i = 1; i <= 20; i++) {
            C.due("feed", 20 * i, x.feed(-1, 0, MAX, MIN, 7));
        }
        C.due("full", -1, x.feed(1, 2, 3, 4, 5));
        x.end(381);
        C.due("full", -1, x.feed(1, 2, 3, 4, 5));
        x.end(380);
        C.due("just so", 400, x.feed(1, 2, 3, 4, 5));
        x = Check.people(2);
        C.due("0 na", 20, x.feed(0x30206e61, 0x6d657320, 0x313b2020, 0x20202020, 0x20202020));
        C.due("bytes in their order", 1, x.text(1));
        C.due("he names", 1, x.of(0, 5));
        x.feed(0x30ff6e61, 0x6d657320, 0x313b2020, 0x20202020, 0x20202020);
        C.due("a byte above 127", -1, x.text(1));
        C.due("its place", 1, x.fault(1));
        x.years(1);
        x.feed(1, 2, 3, 4, 5);
        x.end(0);
        C.due("the tape forgets nothing", 1, x.look(14));
    }

    // Promise 9
    private static void end() {
        SpareDay x = new SpareDay();
        C.due("end of nothing", true, x.end(0));
        C.due("not so many", false, x.end(1));
        x.feed(1, 2, 3, 4, 5);
        C.due("below 0", false, x.end(-1));
        C.due("far below 0", false, x.end(MIN));
        C.due("not so many", false, x.end(21));
        C.due("changing nothing", 40, x.feed(1, 2, 3, 4, 5));
        C.due("all", true, x.end(40));
        C.due("33", true, x.end(33));
        C.due("33 and 20", 53, x.feed(1, 2, 3, 4, 5));
        C.due("none", true, x.end(0));
        C.due("empty", 20, x.feed(1, 2, 3, 4, 5));
    }

    // Promises 10 and 11; TextsTest has the texts themselves
    private static void text() {
        SpareDay x = withWorks();
        C.due("no text 4", -1, Check.tell(x, 4, "0 names 1;"));
        C.due("fault tells 0", 0, x.fault(0));
        C.due("without a place", -1, x.fault(1));
        C.due("the tape is empty", 20, x.feed(1, 2, 3, 4, 5));
        C.due("no text -1", -1, x.text(-1));
        C.due("the tape is empty", 20, x.feed(1, 2, 3, 4, 5));
        C.due("a fault", -1, Check.tell(x, 1, "0 names 1; 0 names 2;"));
        C.due("fault", 2, x.fault(0));
        C.due("place", 11, x.fault(1));
        C.due("another what", -1, x.fault(2));
        C.due("another what", -1, x.fault(-1));
        C.due("the text stays", 2, x.of(0, 5));
        C.due("the text stays", 2, x.look(10));
        C.due("the tape is empty", 20, x.feed(1, 2, 3, 4, 5));
        C.due("no text: the fault is gone", -1, x.text(9));
        C.due("fault tells 0", 0, x.fault(0));
        C.due("without a place", -1, x.fault(1));
        C.due("a fault in works", -1, Check.tell(x, 2, "work 0 for 1 worth 1 dust 1 wax 1; work"));
        C.due("works stay", 4, x.look(11));
        C.due("works stay", 6, x.work(0, 1));
        Check.tell(x, 0, "weight 7;");
        C.due("a fault in the law", -1, Check.tell(x, 0, "weight 8; weight"));
        C.due("the law stays", 7, x.of(0, 7));
        C.due("the law stays", 1, x.look(9));
        Check.tell(x, 3, "1");
        C.due("a fault in the council", -1, Check.tell(x, 3, "0 or"));
        C.due("the council stays", true, x.does(2));
        C.due("the council stays", 1, x.look(12));
        C.due("told anew", 1, Check.tell(x, 1, "2 names 0;"));
        C.due("none is a fault", 0, x.fault(0));
        C.due("others name nobody", -1, x.of(0, 5));
        C.due("he names", 0, x.of(2, 5));
        C.due("empty voices", 0, Check.tell(x, 1, ""));
        C.due("nobody names", -1, x.of(2, 5));
        x = withWorks();
        x.years(1);
        C.due("done", 1, x.work(0, 6));
        Check.tell(x, 2, "work 2 for 6 worth 9 dust 1 wax 2;");
        C.due("told anew none is done", 0, x.work(0, 6));
    }

    // Promise 12
    private static void of() {
        SpareDay x = Check.people(3);
        x.set(4, 1, 17);
        x.set(5, 1, 44);
        x.set(3, 1, 6);
        x.tie(1, 2, true);
        Check.tell(x, 1, "0 names 1; 2 names 1; 1 names 0;");
        Check.tell(x, 0, "weight 3 + person + used; wear 9; weight 4;");
        int[] want = {44, 6, 17, 0, 0, 0, 4, 4, 8};
        for (int what = 0; what < want.length; what++) {
            C.due("of 1 " + what, want[what], x.of(1, what));
        }
        C.due("another what", -2, x.of(1, 9));
        C.due("another what", -2, x.of(1, -1));
        C.due("nobody", -2, x.of(3, 0));
        C.due("none", -2, x.of(-1, 0));
        C.due("far", -2, x.of(MIN, MAX));
        Check.tell(x, 0, "weight 25;");
        C.due("weight 24 at most", 24, x.of(0, 7));
        C.due("the sum more", 48, x.of(1, 8));
        Check.tell(x, 0, "weight 0 - 1;");
        C.due("weight 0 at least", 0, x.of(0, 7));
    }

    // Promise 13
    private static void after() {
        SpareDay x = Check.people(2);
        for (int used = 0; used <= 24; used++) {
            C.due("wear without a line", used / 8, x.after(0, used, false));
            C.due("notice without a line", 100, x.after(0, used, true));
        }
        C.due("too many hours", -1, x.after(0, 25, false));
        C.due("too few", -1, x.after(0, -1, true));
        C.due("nobody", -1, x.after(2, 0, false));
        C.due("none", -1, x.after(-1, 0, true));
        Check.tell(x, 0, "wear used when person = 1; notice used * 50 - 10; wear 30;");
        C.due("the first line whose B is so", 24, x.after(1, 24, false));
        C.due("held", 24, x.after(0, 1, false));
        C.due("by used", 5, x.after(1, 5, false));
        C.due("held to 0", 0, x.after(1, 0, true));
        C.due("held to 1000", 1000, x.after(1, 21, true));
        C.due("below", 990, x.after(1, 20, true));
        C.due("nothing stays", 0, x.look(2));
    }

    // Promise 14
    private static void work() {
        SpareDay x = withWorks();
        int[][] want = {{2, 6, 9, 1, 2, -1, 0}, {0, 1, 1, 0, 0, -1, 0}, {2, 4, 3, 2, 1, 0, 0}, {2, 20, 8, 3, 3, -1, 0}};
        for (int i = 0; i < 4; i++) {
            for (int what = 0; what < 7; what++) {
                C.due("work " + i + " " + what, want[i][what], x.work(i, what));
            }
            C.due("another what", -2, x.work(i, 7));
            C.due("another what", -2, x.work(i, -1));
        }
        C.due("no such work", -2, x.work(4, 0));
        C.due("no such work", -2, x.work(-1, 0));
        C.due("no such work", -2, x.work(MAX, 0));
        x.years(1);
        C.due("done", 1, x.work(0, 6));
        C.due("not his", 0, x.work(1, 6));
    }

    // Promise 15; the lines themselves are asked in aYearGiven
    private static void book() {
        SpareDay x = withWorks();
        C.due("no line yet", -2, x.book(0, 0));
        x.years(1);
        C.due("a line", 0, x.book(2, 0));
        C.due("no such line", -2, x.book(x.look(7), 0));
        C.due("no such line", -2, x.book(-1, 0));
        C.due("no such line", -2, x.book(MAX, 0));
        C.due("another what", -2, x.book(0, 4));
        C.due("another what", -2, x.book(0, -1));
        x.undo();
        C.due("undone", -2, x.book(0, 0));
    }

    private static void bookIsFull() {
        SpareDay x = Check.people(1);
        for (int i = 0; i < 7; i++) {
            x.years(21);
        }
        C.due("147 lines", 147, x.look(7));
        x.person(1, 1);
        Check.tell(x, 1, "0 names 1;");
        Check.tell(x, 2, "work 1 for 1 worth 1 dust 0 wax 0; work 1 for 2 worth 1 dust 0 wax 0; work 1 for 3 worth 1 dust 0 wax 0;");
        Check.tell(x, 0, "notice 1000;");
        x.years(1);
        C.due("150 lines", 150, x.look(7));
        C.due("its last", 3, x.book(149, 1));
        C.due("its last", 1, x.book(149, 2));
        C.due("no more", -2, x.book(150, 1));
        C.due("noticed all the same", 1, x.look(5));
        x.years(40);
        C.due("no more then", 150, x.look(7));
        C.due("the last is as it was", 147, x.book(149, 0));
    }

    // Promise 16
    private static void does() {
        SpareDay x = Check.people(4);
        C.due("empty: any set", true, x.does(0));
        Check.tell(x, 3, "most 3 or (0 and 2)");
        C.due("3", true, x.does(14));
        C.due("0 and 2", true, x.does(5));
        C.due("0 and 1", false, x.does(3));
        C.due("none", false, x.does(0));
        C.due("others are left out", false, x.does(48 + 2));
        C.due("all", true, x.does(-1));
        C.due("others alone", false, x.does(~15));
        Check.tell(x, 3, "1 or 2 and 3");
        C.due("and binds more", true, x.does(2));
        C.due("and binds more", false, x.does(8));
        Check.tell(x, 3, "(1 or 2) and 3");
        C.due("brackets", false, x.does(2));
        C.due("brackets", true, x.does(10));
        Check.tell(x, 3, "0 and 1 and 2 or 3 and 1 or 2 and 3");
        C.due("0 1 2", true, x.does(7));
        C.due("1 3", true, x.does(10));
        C.due("2 3", true, x.does(12));
        C.due("0 3", false, x.does(9));
        Check.tell(x, 3, "most 5");
        C.due("more than there are", false, x.does(-1));
        Check.tell(x, 3, "most 1");
        C.due("one", true, x.does(8));
        C.due("none", false, x.does(16));
    }

    // Promise 17
    private static void plan() {
        SpareDay x = withWorks();
        C.due("worth", 12, x.plan(2, 10, 0));
        C.due("hours", 10, x.plan(2, 10, 1));
        C.due("set", 5, x.plan(2, 10, 2));
        C.due("not without what it is after", 0, x.plan(2, 5, 2));
        C.due("one alone", 1, x.plan(2, 9, 2));
        C.due("24 hours", 5, x.plan(2, 24, 2));
        C.due("0 hours", 0, x.plan(2, 0, 0));
        C.due("0 hours", 0, x.plan(2, 0, 2));
        C.due("without works", 0, x.plan(1, 24, 2));
        C.due("25 hours", -1, x.plan(2, 25, 0));
        C.due("less", -1, x.plan(2, -1, 0));
        C.due("nobody", -1, x.plan(3, 1, 0));
        C.due("none", -1, x.plan(-1, 1, 0));
        C.due("another what", -1, x.plan(2, 10, 3));
        C.due("another what", -1, x.plan(2, 10, -1));
        x.set(0, 0, 15);
        x.set(2, 0, 24);
        x.years(1);
        C.due("9 hours were left", 1, x.work(0, 6));
        C.due("that being done", 4, x.plan(2, 5, 2));
        C.due("the done not again", 12, x.plan(2, 24, 2));
        C.due("worth", 11, x.plan(2, 24, 0));
        Check.tell(x, 2, "work 0 for 9 worth 5 dust 0 wax 0; work 0 for 3 worth 3 dust 0 wax 0; work 0 for 5 worth 2 dust 0 wax 0;"
                + "work 0 for 8 worth 5 dust 0 wax 0; work 0 for 8 worth 5 dust 0 wax 0; work 0 for 1 worth 0 dust 0 wax 0;");
        C.due("the fewest hours, then the least: 1 and 2, not 0, 3 or 4", 6, x.plan(0, 9, 2));
        Check.tell(x, 2, twelve("for2worth1dust0wax0;"));
        C.due("all twelve", 4095, x.plan(0, 24, 2));
        C.due("all but one", 2047, x.plan(0, 23, 2));
        C.due("8 hours", 8, x.plan(0, 9, 1));
    }

    private static String twelve(String rest) {
        return ("work0" + rest).repeat(12);
    }

    // Promise 18
    private static void given() {
        SpareDay x = withWorks();
        Check.tell(x, 0, "wear 7; notice 1000;");
        int[] whom = {2, 2, -1, -1, 2, -1, -1};
        int[] rested = {0, 0, 1, 2, 2, 3, 4};
        int[] worth = {12, 12, 12, 12, 12, 12, 12};
        x.state(5);
        for (int n = 1; n <= 7; n++) {
            C.due("who " + n, whom[n - 1], x.given(n, 0));
            C.due("rested " + n, rested[n - 1], x.given(n, 1));
            C.due("worth " + n, worth[n - 1], x.given(n, 2));
        }
        C.due("nothing stays", 0, x.look(1));
        C.due("no draws", 5, x.look(8));
        C.due("nobody notices", 0, x.look(5));
        C.due("no worth", 0, x.look(6));
        C.due("none done", 0, x.work(0, 6));
        C.due("no lines", 0, x.look(7));
        C.due("no wear", 0, x.look(2));
        C.due("no had", 0, x.of(2, 3));
        C.due("no age", 30, x.of(2, 0));
        C.due("nothing to undo", 0, x.look(14));
        C.due("year 0", -2, x.given(0, 0));
        C.due("year 41", -2, x.given(41, 0));
        C.due("another what", -2, x.given(1, 3));
        C.due("another what", -2, x.given(1, -1));
        x.years(1);
        C.due("worth of what was is left out", 0, x.given(1, 2));
        x.set(1, 0, 0);
        C.due("it rests for ever", 38, x.given(39, 1));
        C.due("40", 39, x.given(40, 1));
        x = Check.people(2);
        C.due("kept", -1, x.given(3, 0));
        C.due("kept is not rested", 0, x.given(3, 1));
    }

    // Promise 19
    private static void can() {
        SpareDay x = Check.people(4);
        Check.tell(x, 1, "0 names 1; 2 names 3;");
        C.due("tied 1 and 3: with 1's voice 0, 2 or 3 too, least first", 1 | 2 | 8, x.can(1));
        C.due("0 can leave 3 alone, or make 2 or 3 it", 4 | 8 | 2, x.can(0));
        x.set(3, 3, 9);
        C.due("3 needs most: 0 makes nobody else it", 8, x.can(0));
        Check.tell(x, 0, "weight 2 when person = 0; weight 1;");
        C.due("0 weighs more", 2 | 4 | 8, x.can(0));
        Check.tell(x, 3, "0 and 2");
        C.due("with 2 for 1 or 3", 2, x.can(2));
        C.due("with 0 for 3", 8, x.can(0));
        C.due("1 brings nobody", 0, x.can(1));
        x.set(0, 0, 24);
        C.due("the limit is not asked", 8, x.can(0));
        C.due("nobody", -1, x.can(4));
        C.due("none", -1, x.can(-1));
        C.due("nothing stays", 1, x.of(0, 5));
    }

    // Promise 20
    private static void fewest() {
        SpareDay x = Check.people(5);
        C.due("empty: none are needed", 0, x.fewest(2, 0));
        C.due("the empty set", 0, x.fewest(2, 1));
        Check.tell(x, 3, "most 3 or 1 and 4 or 0 and 2");
        C.due("two", 2, x.fewest(3, 0));
        C.due("the least", 5, x.fewest(3, 1));
        C.due("without 0", 18, x.fewest(0, 1));
        C.due("without 2", 18, x.fewest(2, 1));
        Check.tell(x, 3, "most 3 or 1 and 4");
        C.due("three", 3, x.fewest(1, 0));
        C.due("0, 2, 3", 13, x.fewest(1, 1));
        Check.tell(x, 3, "most 5");
        C.due("none do", -1, x.fewest(0, 0));
        C.due("none do", -1, x.fewest(0, 1));
        Check.tell(x, 3, "1");
        C.due("he himself is needed", -1, x.fewest(1, 0));
        C.due("another what", -1, x.fewest(0, 2));
        C.due("another what", -1, x.fewest(0, -1));
        C.due("nobody", -1, x.fewest(5, 0));
        C.due("none", -1, x.fewest(-1, 0));
    }

    // Promise 21
    private static void hinge() {
        SpareDay x = Check.people(4);
        C.due("empty: never", 0, x.hinge(0));
        Check.tell(x, 3, "most 3 or 0 and 1");
        C.due("0: 1; 12; 13; 23; not 123", 4, x.hinge(0));
        C.due("2: 03; 13", 2, x.hinge(2));
        Check.tell(x, 3, "3");
        C.due("always", 8, x.hinge(3));
        C.due("never", 0, x.hinge(0));
        C.due("nobody", -1, x.hinge(4));
        C.due("none", -1, x.hinge(-1));
    }

    // Promise 22
    private static void turnsOf() {
        SpareDay x = Check.people(4);
        int[] by = {3, 0, 1, 1};
        for (int p = 0; p < 4; p++) {
            x.set(4, p, by[p]);
        }
        C.due("most of 4", 3, x.turnsOf(4, 0));
        int[] of4 = {1, 2, 0, -1};
        for (int i = 0; i < 4; i++) {
            C.due("in 4: " + i, of4[i], x.turnsOf(4, 10 + i));
        }
        C.due("most of 1", 1, x.turnsOf(1, 0));
        C.due("in 1", 0, x.turnsOf(1, 10));
        C.due("most of 2", 2, x.turnsOf(2, 0));
        C.due("in 2", 0, x.turnsOf(2, 10));
        C.due("in 2", 2, x.turnsOf(2, 11));
        C.due("in 10", -1, x.turnsOf(10, 19));
        C.due("0 years", -2, x.turnsOf(0, 0));
        C.due("11 years", -2, x.turnsOf(11, 0));
        C.due("no such year", -2, x.turnsOf(4, 14));
        C.due("no such year", -2, x.turnsOf(4, 9));
        C.due("another what", -2, x.turnsOf(4, 1));
        C.due("another what", -2, x.turnsOf(4, -1));
        C.due("another what", -2, x.turnsOf(4, MAX));
        x.years(1);
        C.due("a year on", 2, x.turnsOf(3, 0));
        C.due("a year on", 2, x.turnsOf(3, 10));
        C.due("a year on", 0, x.turnsOf(3, 11));
        x.years(3);
        C.due("behind", 0, x.turnsOf(10, 0));
        C.due("behind", -1, x.turnsOf(10, 10));
        x = Check.people(10);
        C.due("ten", 10, x.turnsOf(10, 0));
        C.due("the last", 9, x.turnsOf(10, 19));
    }

    // Promise 23
    private static void traces() {
        SpareDay x = new SpareDay();
        C.due("traces", true, x.traces(200, 0));
        C.due("dust", 200, x.look(16));
        C.due("wax", 0, x.look(17));
        C.due("traces", true, x.traces(0, 200));
        C.due("too much dust", false, x.traces(201, 1));
        C.due("too much wax", false, x.traces(1, 201));
        C.due("too little dust", false, x.traces(-1, 1));
        C.due("too little wax", false, x.traces(1, -1));
        C.due("dust stays", 0, x.look(16));
        C.due("wax stays", 200, x.look(17));
    }

    // Promise 24
    private static void fits() {
        SpareDay x = withWorks();
        C.due("nothing was done: the empty set", 1, x.fits(2, 0));
        C.due("nothing was done: the empty set", 0, x.fits(2, 1));
        C.due("another what", -1, x.fits(2, 2));
        C.due("another what", -1, x.fits(2, -1));
        x.traces(3, 3);
        C.due("0 and 2, or 3", 2, x.fits(2, 0));
        C.due("the least", 5, x.fits(2, 1));
        x.traces(2, 1);
        C.due("2 is after 0", 0, x.fits(2, 0));
        C.due("none", -1, x.fits(2, 1));
        x.traces(6, 6);
        C.due("30 hours", 0, x.fits(2, 0));
        x.traces(1, 1);
        C.due("not another's", 0, x.fits(0, 0));
        C.due("nobody", -1, x.fits(3, 0));
        C.due("none", -1, x.fits(-1, 0));
        x.set(0, 0, 18);
        x.set(2, 0, 24);
        x.years(1);
        C.due("0 is done", 1, x.work(0, 6));
        x.traces(2, 1);
        C.due("so 2 alone fits", 1, x.fits(2, 0));
        C.due("2 alone", 4, x.fits(2, 1));
        x.traces(5, 4);
        C.due("24 hours", 1, x.fits(2, 0));
        C.due("2 and 3", 12, x.fits(2, 1));
        x.traces(1, 2);
        C.due("the done fit too", 1, x.fits(2, 1));
        Check.tell(x, 2, twelve("for2worth0dust1wax2;"));
        x.traces(12, 24);
        C.due("all twelve", 4095, x.fits(0, 1));
        x.traces(6, 12);
        C.due("924 sets", 924, x.fits(0, 0));
        C.due("the least", 63, x.fits(0, 1));
    }

    // Promise 25
    private static void lookAt() {
        SpareDay x = withWorks();
        C.due("one set alone", -1, x.lookAt(2));
        x.traces(3, 3);
        C.due("any of three parts them", 0, x.lookAt(2));
        C.due("nobody", -1, x.lookAt(3));
        C.due("none", -1, x.lookAt(-1));
        x.traces(9, 9);
        C.due("no set", -1, x.lookAt(2));
        Check.tell(x, 2, "work 0 for 1 worth 1 dust 1 wax 0; work 1 for 1 worth 1 dust 1 wax 0; work 1 for 1 worth 1 dust 1 wax 0;"
                + "work 1 for 1 worth 1 dust 1 wax 0; work 1 for 1 worth 1 dust 0 wax 0; work 1 for 1 worth 1 dust 0 wax 0;");
        x.traces(1, 0);
        C.due("twelve sets", 12, x.fits(1, 0));
        C.due("4 halves them", 4, x.lookAt(1));
        x.traces(3, 0);
        C.due("four sets", 4, x.fits(1, 0));
        C.due("4 halves them", 4, x.lookAt(1));
        C.due("0 has none", -1, x.lookAt(0));
    }

    // Promise 26
    private static void share() {
        SpareDay x = new SpareDay();
        C.due("all of his", 20, x.share(10, 14, 0));
        C.due("all of his", 28, x.share(10, 14, 1));
        C.due("half of what both claim", 10, x.share(10, 24, 0));
        C.due("the rest", 38, x.share(10, 24, 1));
        C.due("an hour in halves", 10, x.share(10, 15, 0) - 9);
        C.due("an hour in halves", 29, x.share(10, 15, 1));
        C.due("more than there is", 24, x.share(48, 30, 0));
        C.due("all to one", 48, x.share(0, 48, 1));
        C.due("all to one", 48, x.share(48, 0, 0));
        C.due("no claims", 0, x.share(0, 0, 1));
        C.due("nothing to one", 0, x.share(0, 48, 0));
        x.sit(9);
        C.due("of 15 hours", 15, x.share(20, 15, 0));
        C.due("of 15 hours", 30 - 4, x.share(4, 20, 1));
        x.sit(24);
        C.due("of none", 0, x.share(1, 48, 1));
        C.due("49", -1, x.share(49, 0, 0));
        C.due("49", -1, x.share(0, 49, 0));
        C.due("less", -1, x.share(-1, 0, 0));
        C.due("less", -1, x.share(0, -1, 1));
        C.due("another what", -1, x.share(0, 0, 2));
        C.due("another what", -1, x.share(0, 0, -1));
    }

    // Promise 27
    private static void bid() {
        SpareDay x = Check.people(2);
        C.due("too much", -1, x.bid(0, 10000));
        C.due("too little", -1, x.bid(0, -1));
        C.due("nobody", -1, x.bid(2, 1));
        C.due("nobody", -1, x.bid(-2, 1));
        for (int i = 1; i <= 8; i++) {
            C.due("bid", i, x.bid(i % 2, i == 1 ? 0 : 9999));
        }
        C.due("there are eight", -1, x.bid(0, 1));
        C.due("eight", 8, x.look(13));
        C.due("none is then", 0, x.bid(SpareDay.NONE, 1));
        C.due("none", 0, x.look(13));
        C.due("none", -1, x.sold(0));
        C.due("one anew", 1, x.bid(1, 7));
    }

    // Promise 28
    private static void sold() {
        SpareDay x = Check.people(4);
        C.due("without bids", -1, x.sold(0));
        C.due("without bids", -1, x.sold(1));
        x.bid(3, 0);
        C.due("one", 3, x.sold(0));
        C.due("without a second", 0, x.sold(1));
        x.bid(2, 50);
        C.due("the greatest", 2, x.sold(0));
        C.due("the second", 0, x.sold(1));
        x.bid(1, 20);
        C.due("the greatest", 2, x.sold(0));
        C.due("the second", 20, x.sold(1));
        x.bid(0, 50);
        C.due("of several the first", 2, x.sold(0));
        C.due("as much", 50, x.sold(1));
        x.bid(0, 90);
        C.due("the last", 0, x.sold(0));
        C.due("the second", 50, x.sold(1));
        C.due("another what", -1, x.sold(2));
        C.due("another what", -1, x.sold(-1));
    }

    // Promise 29
    private static void rests() {
        SpareDay x = new SpareDay();
        C.due("12 by 1", 12, x.rests(1));
        C.due("12 by 11", 2, x.rests(11));
        C.due("12 by 24", 1, x.rests(24));
        C.due("0", -1, x.rests(0));
        C.due("25", -1, x.rests(25));
        C.due("less", -1, x.rests(-3));
        x.sit(8);
        C.due("4 by 3", 2, x.rests(3));
        C.due("4 by 4", 1, x.rests(4));
        x.sit(4);
        C.due("is there", 0, x.rests(3));
        x.sit(12);
        C.due("is there", 0, x.rests(24));
        x.set(0, 0, 11);
        C.due("1 by 24", 1, x.rests(24));
        x.set(2, 0, 24);
        x.set(0, 0, 0);
        C.due("24 by 5", 5, x.rests(5));
    }

    // Promise 30
    private static void weekday() {
        SpareDay x = new SpareDay();
        C.due("day 0", 0, x.weekday(0, 0, 0, 0));
        C.due("day 364", 0, x.weekday(364, 0, 0, 364));
        C.due("a spare day at m", 1, x.weekday(364, 0, 1, 364));
        C.due("a spare day ahead of it", 6, x.weekday(363, 0, 1, 364));
        C.due("behind it", 6, x.weekday(5, 0, 1, 4));
        C.due("year 999 without", (365 * 999 + 10) % 7, x.weekday(10, 999, 0, 3));
        C.due("year 999 with", (366 * 999 + 11) % 7, x.weekday(10, 999, 1, 3));
        int[][] wrong = {{-1, 0, 0, 0}, {365, 0, 0, 0}, {0, -1, 0, 0}, {0, 1000, 0, 0}, {0, 0, -1, 0}, {0, 0, 2, 0},
            {0, 0, 0, -1}, {0, 0, 0, 365}};
        for (int[] w : wrong) {
            C.due("can't be", -1, x.weekday(w[0], w[1], w[2], w[3]));
        }
    }

    // Promise 31
    private static void next() {
        SpareDay x = new SpareDay();
        C.due("nobody", -1, x.next());
        x.person(20, 5);
        x.person(40, 5);
        x.person(40, 5);
        C.due("the oldest, then the least", 1, x.next());
        x.person(10, 6);
        C.due("the greatest need", 3, x.next());
        Check.tell(x, 1, "0 names 3;");
        x.years(1);
        C.due("3 had it", 1, x.next());
        Check.tell(x, 0, "wear 0;");
        for (int p = 1; p < 3; p++) {
            Check.tell(x, 1, "0 names " + p + ";");
            x.years(1);
        }
        C.due("0 alone", 0, x.next());
        Check.tell(x, 1, "1 names 0;");
        x.years(1);
        C.due("there is none", -1, x.next());
    }

    // Promise 32
    private static void due() {
        SpareDay x = new SpareDay();
        C.due("nobody's need", 0, x.due(0));
        C.due("nobody's by", -1, x.due(1));
        x.person(1, 7);
        x.person(1, 8);
        x.person(1, 24);
        C.due("need", 39, x.due(0));
        C.due("by", 999, x.due(1));
        C.due("another what", -1, x.due(2));
        C.due("another what", -1, x.due(-1));
        x.set(4, 0, 5);
        x.set(4, 1, 3);
        x.set(4, 2, 9);
        C.due("by 3", 3, x.due(1));
        Check.tell(x, 1, "0 names 1;");
        Check.tell(x, 0, "wear 0;");
        x.years(1);
        C.due("1 had it", 31, x.due(0));
        C.due("by 5, a year on", 4, x.due(1));
        x.years(4);
        C.due("now", 0, x.due(1));
        x.years(1);
        C.due("5 is behind", 3, x.due(1));
        x.years(3);
        C.due("9 now", 0, x.due(1));
        x.years(1);
        C.due("none such", -1, x.due(1));
        C.due("need all the same", 31, x.due(0));
    }

    // Promise 33
    private static void doers() {
        SpareDay x = Check.people(4);
        C.due("any set", 16, x.doers(0));
        C.due("the empty set needs each", 1, x.doers(1));
        C.due("in all", 0, x.doers(2));
        Check.tell(x, 3, "2 and (most 3 or 0)");
        C.due("02 012 023 0123 123", 5, x.doers(0));
        C.due("02 123", 2, x.doers(1));
        C.due("2", 4, x.doers(2));
        Check.tell(x, 3, "most 7");
        C.due("none do", 0, x.doers(0));
        C.due("none do", 0, x.doers(1));
        C.due("all people", 15, x.doers(2));
        C.due("another what", -1, x.doers(3));
        C.due("another what", -1, x.doers(-1));
        x = Check.people(10);
        Check.tell(x, 3, "most 5");
        C.due("638 sets", 638, x.doers(0));
        C.due("252 sets", 252, x.doers(1));
    }

    // Promise 34
    private static void thieves() {
        SpareDay x = withWorks();
        C.due("who did nothing fits no traces", 7, x.thieves());
        x.traces(3, 3);
        C.due("2", 4, x.thieves());
        x.traces(9, 9);
        C.due("nobody", 0, x.thieves());
        Check.tell(x, 2, "work 0 for 1 worth 0 dust 4 wax 4; work 1 for 1 worth 0 dust 4 wax 3; work 2 for 1 worth 0 dust 4 wax 4;");
        x.traces(4, 4);
        C.due("0 and 2", 5, x.thieves());
    }

    // Promise 35
    private static void soonest() {
        SpareDay x = Check.people(3);
        Check.tell(x, 0, "weight since when person = 0; weight 5; wear 0;");
        Check.tell(x, 1, "0 names 1; 1 names 2;");
        C.due("at once", 0, x.soonest(2));
        C.due("5 years on as much, and the less", 5, x.soonest(1));
        C.due("never", -1, x.soonest(0));
        C.due("nobody", -1, x.soonest(3));
        C.due("none", -1, x.soonest(-1));
        C.due("nothing stays", 0, x.look(1));
        Check.tell(x, 0, "weight 0 when year < 39; wear 0;");
        C.due("the 40th", 39, x.soonest(1));
        Check.tell(x, 0, "weight 0 when year < 40; wear 0;");
        C.due("beyond the 40th", -1, x.soonest(1));
        x.years(1);
        C.due("a year on", 39, x.soonest(1));
        Check.tell(x, 0, "");
        x.set(0, 0, 16);
        C.due("it rests three years", 3, x.soonest(1));
    }

    // Promise 36
    private static void spread() {
        SpareDay x = new SpareDay();
        C.due("without people", 0, x.spread(0));
        C.due("without people", -1, x.spread(1));
        x.person(1, 1);
        x.person(1, 1);
        x.person(1, 1);
        C.due("alike", 0, x.spread(0));
        C.due("nobody had it", -1, x.spread(1));
        Check.tell(x, 0, "wear 0;");
        Check.tell(x, 1, "0 names 1;");
        x.years(3);
        C.due("3", 3, x.spread(0));
        C.due("1", 1, x.spread(1));
        Check.tell(x, 1, "0 names 2;");
        x.years(1);
        C.due("3", 3, x.spread(0));
        C.due("2", 2, x.spread(1));
        Check.tell(x, 1, "1 names 0;");
        x.years(1);
        C.due("2", 2, x.spread(0));
        C.due("0", 0, x.spread(1));
        x.years(1);
        C.due("had 2, 3, 1", 2, x.spread(0));
        x.years(8);
        C.due("had 10, 3, 1", 9, x.spread(0));
        C.due("another what", -1, x.spread(2));
        C.due("another what", -1, x.spread(-1));
    }

    // Promise 37
    private static void way() {
        SpareDay x = Check.people(10);
        for (int p = 0; p < 8; p++) {
            x.tie(p, p + 1, true);
        }
        C.due("himself", 0, x.way(9, 9));
        C.due("one", 1, x.way(4, 3));
        C.due("eight", 8, x.way(0, 8));
        C.due("back", 8, x.way(8, 0));
        C.due("none", -1, x.way(0, 9));
        C.due("none", -1, x.way(9, 0));
        x.tie(8, 9, true);
        C.due("nine", 9, x.way(0, 9));
        x.tie(2, 7, true);
        C.due("shorter", 5, x.way(0, 9));
        C.due("nobody", -1, x.way(0, 10));
        C.due("nobody", -1, x.way(10, 0));
        C.due("none himself", -1, x.way(10, 10));
        C.due("none himself", -1, x.way(-1, -1));
    }

    // Promise 38
    private static void clique() {
        SpareDay x = new SpareDay();
        C.due("none", 0, x.clique(0));
        C.due("nobody", 0, x.clique(1));
        x = Check.people(6);
        C.due("one", 1, x.clique(0));
        C.due("the least", 1, x.clique(1));
        x.tie(4, 5, true);
        C.due("two", 2, x.clique(0));
        C.due("4 and 5", 48, x.clique(1));
        x.tie(0, 1, true);
        C.due("the least", 3, x.clique(1));
        x.tie(3, 4, true);
        x.tie(3, 5, true);
        x.tie(1, 2, true);
        C.due("three", 3, x.clique(0));
        C.due("3, 4, 5", 56, x.clique(1));
        x.tie(0, 2, true);
        C.due("0, 1, 2", 7, x.clique(1));
        x.tie(2, 3, true);
        x.tie(2, 4, true);
        x.tie(2, 5, true);
        C.due("four", 4, x.clique(0));
        C.due("2 .. 5", 60, x.clique(1));
        C.due("another what", -1, x.clique(2));
        C.due("another what", -1, x.clique(-1));
    }

    // Promise 39
    private static void undo() {
        SpareDay x = withWorks();
        Check.tell(x, 0, "wear 3; notice 1000;");
        x.state(9);
        C.due("years", 2, x.years(2));
        x.tie(0, 1, true);
        x.sit(2);
        x.tie(0, 1, false);
        C.due("5 can be undone", 5, x.look(14));
        C.due("undo", true, x.undo());
        C.due("tied", 2, x.of(0, 6));
        C.due("undo", true, x.undo());
        C.due("wear", 6, x.look(2));
        C.due("undo", true, x.undo());
        C.due("untied", 0, x.of(1, 6));
        C.due("undo", true, x.undo());
        C.due("year", 1, x.look(1));
        C.due("had", 1, x.of(2, 3));
        C.due("undo", true, x.undo());
        int[] first = {3, 0, 0, 2, 12, 0, 0, 0, 9};
        for (int i = 0; i < first.length; i++) {
            C.due("as at first " + i, first[i], x.look(i));
        }
        C.due("none done", 0, x.work(0, 6));
        C.due("age", 30, x.of(0, 0));
        C.due("since", 0, x.of(0, 4));
        C.due("had", 0, x.of(2, 3));
        C.due("nothing to undo", false, x.undo());
        x.years(10);
        C.due("6 are kept", 6, x.look(14));
        for (int i = 9; i > 3; i--) {
            C.due("undo", true, x.undo());
            C.due("year", i, x.look(1));
        }
        C.due("no more", false, x.undo());
        C.due("year", 4, x.look(1));
        x.sit(1);
        x.sit(1);
        C.due("2", 2, x.look(14));
        x.undo();
        x.sit(5);
        C.due("2", 2, x.look(14));
        x.undo();
        x.undo();
        C.due("none", 0, x.look(14));
    }

    private static void undoForgets() {
        SpareDay x = withWorks();
        for (int way = 0; way < 17; way++) {
            x.sit(1);
            x.tie(0, 1, x.of(0, 6) == 0);
            int kept = x.look(14);
            boolean forgets = false;
            switch (way) {
                case 0: x.state(0); forgets = true; break;
                case 1: x.person(1, 1); forgets = true; break;
                case 2: x.set(1, 0, 2); forgets = true; break;
                case 3: x.traces(0, 0); forgets = true; break;
                case 4: Check.tell(x, 1, "0 names 1;"); forgets = true; break;
                case 5: Check.tell(x, 2, ""); forgets = true; break;
                case 6: Check.tell(x, 0, "weight 2;"); break;
                case 7: Check.tell(x, 3, "most 1"); break;
                case 8: x.bid(0, 1); break;
                case 9: x.bid(-1, 0); break;
                case 10: x.image(true); break;
                case 11: x.image(false); forgets = true; break;
                case 12: x.person(100, 0); x.set(0, 0, 25); x.traces(-1, 0); break;
                case 13: Check.tell(x, 1, "x"); Check.tell(x, 2, "x"); Check.tell(x, 7, ""); break;
                case 14: x.tie(0, 0, true); x.sit(0); x.years(0); break;
                case 15: x.given(3, 0); x.soonest(1); x.can(0); x.look(15); break;
                default: x.set(5, 0, x.of(0, 0)); forgets = true; break;
            }
            C.due("undone by " + way, forgets ? 0 : kept, x.look(14));
        }
        x = Check.people(2);
        x.sit(4);
        Check.tell(x, 0, "weight 7;");
        Check.tell(x, 3, "0");
        x.bid(1, 3);
        x.undo();
        C.due("wear goes back", 0, x.look(2));
        C.due("the law does not", 7, x.of(0, 7));
        C.due("the council does not", false, x.does(2));
        C.due("bids do not", 1, x.look(13));
    }

    // Promise 40
    private static void image() {
        SpareDay x = withWorks();
        Check.tell(x, 0, "weight 3; notice 1000;");
        Check.tell(x, 3, "0 and 1");
        x.tie(0, 2, true);
        x.bid(1, 5);
        x.bid(0, 4);
        x.traces(3, 4);
        x.years(2);
        x.sit(1);
        C.due("none yet", false, x.image(false));
        C.due("taken", true, x.image(true));
        C.due("what can be undone stays", 3, x.look(14));
        int[] before = everything(x);
        for (int round = 0; round < 2; round++) {
            x.undo();
            x.undo();
            x.undo();
            Check.tell(x, 3, "");
            Check.tell(x, 1, "2 names 0;");
            x.years(3);
            x.undo();
            x.person(3, 3);
            x.set(1, 0, 9);
            x.set(2, 0, 9);
            x.set(3, 0, 9);
            x.set(4, 0, 9);
            x.set(5, 0, 9);
            x.tie(0, 1, true);
            x.bid(-1, 0);
            x.bid(2, 8);
            x.bid(2, 18);
            x.bid(2, 28);
            x.state(4);
            x.traces(1, 1);
            Check.tell(x, 0, "wear 24; weight 1;");
            Check.tell(x, 1, "0 names 1;");
            Check.tell(x, 2, "work 1 for 1 worth 9 dust 0 wax 0;");
            x.years(5);
            Check.tell(x, 3, "2");
            x.feed(1, 2, 3, 4, 5);
            Check.tell(x, 1, "0 names 0;");
            x.feed(1, 2, 3, 4, 5);
            C.due("gone back", true, x.image(false));
            int[] now = everything(x);
            for (int i = 0; i < before.length; i++) {
                C.due("as it was " + i, before[i], now[i]);
            }
            C.due("nothing can be undone", 0, x.look(14));
            C.due("fault stays", 2, x.fault(0));
            C.due("place stays", 8, x.fault(1));
            C.due("the tape stays", 40, x.feed(1, 2, 3, 4, 5));
            x.end(0);
        }
        C.due("people go back", 3, x.person(8, 8));
        C.due("he has nothing of another", 0, x.of(3, 3));
        x.image(true);
        x.person(9, 9);
        x.image(false);
        C.due("the newer image", 4, x.look(0));
    }

    private static int[] everything(SpareDay x) {
        int[] all = new int[142];
        int n = 0;
        for (int i = 0; i < 18; i++) {
            all[n++] = i == 14 ? 0 : x.look(i);
        }
        for (int p = 0; p < 4; p++) {
            for (int what = 0; what < 9; what++) {
                all[n++] = x.of(p, what);
            }
        }
        for (int i = 0; i < 8; i++) {
            for (int what = 0; what < 4; what++) {
                all[n++] = x.book(i, what);
            }
        }
        for (int i = 0; i < 5; i++) {
            for (int what = 0; what < 7; what++) {
                all[n++] = x.work(i, what);
            }
        }
        for (int set = 0; set < 16; set++) {
            all[n++] = x.does(set) ? 1 : 0;
        }
        all[n++] = x.sold(0);
        all[n++] = x.sold(1);
        all[n++] = x.after(1, 9, false);
        all[n++] = x.after(1, 9, true);
        all[n++] = x.given(9, 1);
        return all;
    }

    // Promise 41
    private static void look() {
        SpareDay x = withWorks();
        Check.tell(x, 0, "notice 1000; wear 5; weight 1;");
        Check.tell(x, 3, "most 2 or 2 or 1");
        x.state(3);
        x.years(2);
        x.bid(0, 1);
        x.traces(11, 22);
        x.set(1, 0, 7);
        x.set(2, 0, 23);
        x.sit(1);
        int draw = 1664525 * (1664525 * 3 + 1013904223) + 1013904223;
        int[] want = {3, 2, 11, 7, 23, 2, 12, 6, draw, 3, 2, 4, 3, 1, 1, 2, 11, 22};
        for (int what = 0; what < want.length; what++) {
            C.due("look " + what, want[what], x.look(what));
        }
        C.due("another what", -1, x.look(18));
        C.due("another what", -1, x.look(-1));
        C.due("another what", -1, x.look(MIN));
    }
}
