import java.io.IOException;

/** Promises 39 to 41: a test for each sentence of DOC.md that names an edge. */
public final class EdgesOfReturnTest {
    private static final Check C = new Check();
    private static final int MAX = Integer.MAX_VALUE;
    private static final int MIN = Integer.MIN_VALUE;
    private static final String WORKS = "work 1 for 6 worth 9 dust 1 wax 2; work 1 for 4 worth 3 dust 2 wax 1 after 0;";

    public static void main(String[] args) throws IOException {
        Edges.run(C, EdgesOfReturnTest.class, 39, 41);
    }

    /** Three PEOPLE, of whom 0 names 1, who has WORKS; the day does not wear, and each YEAR is noticed. */
    private static SpareDay realm() {
        SpareDay x = Check.people(3);
        Check.tell(x, 0, "wear 0; notice 1000;");
        Check.tell(x, 1, "0 names 1;");
        Check.tell(x, 2, WORKS);
        return x;
    }

    private static int[] all(SpareDay x) {
        int[] all = new int[120];
        int n = 0;
        for (int what = 0; what <= 17; what++) {
            all[n++] = what == 14 ? 0 : x.look(what);
        }
        for (int p = 0; p < 4; p++) {
            for (int what = 0; what <= 8; what++) {
                all[n++] = x.of(p, what);
            }
        }
        for (int i = 0; i < 8; i++) {
            for (int what = 0; what <= 3; what++) {
                all[n++] = x.book(i, what);
            }
        }
        for (int what = 0; what <= 6; what++) {
            all[n++] = x.work(0, what);
            all[n++] = x.work(1, what);
        }
        for (int set = 0; set < 8; set++) {
            all[n++] = x.does(set) ? 1 : 0;
        }
        all[n++] = x.sold(0);
        all[n++] = x.sold(1);
        return all;
    }

    private static void same(String what, int[] want, int[] got) {
        for (int i = 0; i < want.length; i++) {
            C.due(what + ", answer " + i, want[i], got[i]);
        }
    }

    // ---- 39: undo

    @Says(promise = 39, words = "UNDO: true; false if there is nothing.")
    static void nothingToUndo() {
        SpareDay x = new SpareDay();
        C.due("a new object", false, x.undo());
        x.sit(1);
        C.due("a sitting", true, x.undo());
        C.due("nothing more", false, x.undo());
        C.due("nothing at all", false, x.undo());
        C.due("wear", 0, x.look(2));
        x.sit(2);
        C.due("one again", 1, x.look(14));
        C.due("a sitting", true, x.undo());
        C.due("wear", 0, x.look(2));
    }

    @Says(promise = 39, words = "UNDO: the latest YEAR, SITTING, TYING not undone yet goes back (STATE, THE BOOK, too)")
    static void aYearGoesBack() {
        SpareDay x = realm();
        x.state(77);
        x.sit(3);
        x.tie(1, 2, true);
        int[] before = all(x);
        C.due("given", 1, x.years(1));
        C.due("it drew", true, x.look(8) != 77);
        C.due("lines", 4, x.look(7));
        C.due("undo", true, x.undo());
        same("the year is undone", before, all(x));
        C.due("untied", true, x.undo());
        C.due("no tie", 0, x.of(1, 6) + x.of(2, 6));
        C.due("wear stays", 3, x.look(2));
        C.due("unseated", true, x.undo());
        C.due("wear", 0, x.look(2));
    }

    @Says(promise = 39, words = "the latest YEAR, SITTING, TYING not undone yet")
    static void eachYearAlone() {
        SpareDay x = realm();
        x.years(5);
        x.tie(0, 1, true);
        x.undo();
        x.tie(0, 2, true);
        x.tie(0, 2, false);
        C.due("what can be undone: six are kept", 6, x.look(14));
        x.undo();
        C.due("tied again", 4, x.of(0, 6));
        x.undo();
        C.due("no more", 0, x.of(0, 6));
        for (int year = 4; year > 0; year--) {
            x.undo();
            C.due("year", year, x.look(1));
            C.due("had", year, x.of(1, 3));
        }
        C.due("the first is kept no more", false, x.undo());
        C.due("year", 1, x.look(1));
    }

    @Says(promise = 39, words = "YEAR, SITTING, TYING not undone yet goes back")
    static void restedAndKeptGoBack() {
        SpareDay x = realm();
        x.set(1, 0, 5);
        x.set(0, 0, 13);
        x.years(1);
        C.due("rested", 8, x.look(2));
        x.undo();
        C.due("wear", 13, x.look(2));
        C.due("since", 0, x.of(0, 4));
        C.due("age", 30, x.of(0, 0));
        C.due("no line", 0, x.look(7));
        x = Check.people(1);
        x.years(1);
        x.undo();
        C.due("kept: since", 0, x.of(0, 4));
        C.due("kept: year", 0, x.look(1));
        x.set(5, 0, 99);
        x.years(1);
        x.undo();
        C.due("age 99 stays", 99, x.of(0, 0));
        x.set(0, 0, 23);
        x.sit(24);
        x.undo();
        C.due("wear, though 24 was most", 23, x.look(2));
    }

    @Says(promise = 39, words = "6 are kept")
    static void sixAreKept() {
        for (int deeds = 0; deeds <= 15; deeds++) {
            SpareDay x = new SpareDay();
            for (int i = 0; i < deeds; i++) {
                x.sit(1);
            }
            int kept = Math.min(6, deeds);
            C.due("kept of " + deeds, kept, x.look(14));
            for (int i = 1; i <= kept; i++) {
                C.due("undo " + i, true, x.undo());
                C.due("wear", deeds - i, x.look(2));
                C.due("kept", kept - i, x.look(14));
            }
            C.due("no more", false, x.undo());
        }
        SpareDay x = realm();
        x.years(40);
        C.due("of forty", 6, x.look(14));
        x.undo();
        x.sit(1);
        x.sit(2);
        C.due("again six", 6, x.look(14));
        for (int i = 0; i < 6; i++) {
            x.undo();
        }
        C.due("the 35th is the first kept", 35, x.look(1));
        C.due("no more", false, x.undo());
    }

    @Says(promise = 39, words = "whatever else is told but THE LAW, THE COUNCIL, BIDS (the taking of THE IMAGE does not) forgets them")
    static void whatForgets() {
        for (int way = 0; way < 12; way++) {
            SpareDay x = realm();
            x.image(true);
            x.sit(1);
            x.years(1);
            switch (way) {
                case 0: x.state(x.look(8)); break;
                case 1: x.person(0, 0); break;
                case 2: x.set(0, 0, x.look(2)); break;
                case 3: x.set(1, 0, 2); break;
                case 4: x.set(2, 0, 12); break;
                case 5: x.set(3, 0, 5); break;
                case 6: x.set(4, 0, 999); break;
                case 7: x.set(5, 0, 31); break;
                case 8: Check.tell(x, 1, "0 names 1;"); break;
                case 9: Check.tell(x, 2, WORKS); break;
                case 10: x.traces(0, 0); break;
                default: x.image(false); break;
            }
            C.due("forgotten by " + way, 0, x.look(14));
            C.due("forgotten by " + way, false, x.undo());
        }
    }

    @Says(promise = 39, words = "but THE LAW, THE COUNCIL, BIDS (the taking of THE IMAGE does not)")
    static void whatDoesNotForget() {
        SpareDay x = realm();
        x.sit(1);
        x.years(1);
        Check.tell(x, 0, "weight 5; wear 0;");
        Check.tell(x, 3, "0");
        x.bid(1, 9);
        x.bid(-1, 9);
        x.bid(2, 8);
        x.image(true);
        C.due("kept", 2, x.look(14));
        C.due("undo", true, x.undo());
        C.due("year", 0, x.look(1));
        C.due("the law is not undone", 5, x.of(0, 7));
        C.due("the council is not undone", false, x.does(6));
        C.due("bids are not undone", 2, x.sold(0));
        C.due("undo", true, x.undo());
        C.due("wear", 0, x.look(2));
    }

    @Says(promise = 39, words = "whatever else is told")
    static void whatIsRefusedForgetsNothing() {
        SpareDay x = realm();
        x.sit(1);
        x.years(1);
        x.person(100, 0);
        x.person(0, -1);
        x.set(0, 0, 25);
        x.set(6, 0, 1);
        x.set(3, 3, 1);
        x.traces(201, 0);
        x.tie(0, 0, true);
        x.tie(0, 1, false);
        x.sit(0);
        x.sit(25);
        x.years(0);
        x.years(41);
        x.bid(3, 1);
        C.due("kept", 2, x.look(14));
        Check.tell(x, 1, "0 names 0;");
        Check.tell(x, 2, "work");
        Check.tell(x, 4, "");
        C.due("kept", 2, x.look(14));
        SpareDay y = new SpareDay();
        y.sit(1);
        y.image(false);
        C.due("no image: kept", 1, y.look(14));
    }

    // ---- 40: image

    @Says(promise = 40, words = "THE IMAGE is taken (true), or gone back to (false): true; false if there is none.")
    static void noImage() {
        SpareDay x = realm();
        C.due("none", false, x.image(false));
        x.sit(1);
        C.due("none", false, x.image(false));
        C.due("wear", 1, x.look(2));
        C.due("taken", true, x.image(true));
        C.due("gone back to", true, x.image(false));
    }

    @Says(promise = 40, words = "THE IMAGE: all that is and was told")
    static void allThatIs() {
        SpareDay x = realm();
        Check.tell(x, 3, "0 or 1 and 2");
        x.tie(0, 2, true);
        x.years(1);
        x.sit(3);
        x.bid(1, 5);
        x.bid(0, 4);
        x.traces(3, 4);
        x.image(true);
        int[] before = all(x);
        x.undo();
        x.undo();
        x.undo();
        x.state(1);
        x.person(1, 1);
        for (int what = 0; what < 6; what++) {
            x.set(what, 1, 17);
        }
        x.tie(1, 2, true);
        Check.tell(x, 0, "weight 9;");
        Check.tell(x, 1, "1 names 0; 3 names 0;");
        Check.tell(x, 2, "work 0 for 9 worth 1 dust 1 wax 1;");
        Check.tell(x, 3, "2");
        x.years(3);
        x.traces(9, 9);
        x.bid(-1, 0);
        x.bid(2, 1);
        x.image(false);
        same("gone back", before, all(x));
    }

    @Says(promise = 40, words = "but the TAPE, fault() and what can be undone (nothing then)")
    static void butTheTape() {
        SpareDay x = realm();
        Check.put(x, "wear 1;wear 2;");
        x.image(true);
        C.due("the taking leaves the tape", 2, x.text(0));
        Check.tell(x, 1, "0 names 0;");
        Check.put(x, "weight 7;");
        x.sit(1);
        x.sit(1);
        x.image(false);
        C.due("fault stays", 2, x.fault(0));
        C.due("its place stays", 8, x.fault(1));
        C.due("nothing can be undone", 0, x.look(14));
        C.due("nothing is undone", false, x.undo());
        C.due("the tape stays", 1, x.text(0));
        C.due("as it was fed", 7, x.of(0, 7));
    }

    @Says(promise = 40, words = "as it was when it was taken; gone back to it may be more than once")
    static void moreThanOnce() {
        SpareDay x = realm();
        x.sit(5);
        x.image(true);
        int[] before = all(x);
        for (int i = 1; i <= 3; i++) {
            x.years(i);
            x.person(1, 1);
            Check.tell(x, 2, "");
            C.due("gone back " + i, true, x.image(false));
            same("time " + i, before, all(x));
        }
        x.set(0, 0, 9);
        x.image(true);
        x.set(0, 0, 3);
        x.image(false);
        C.due("the newer one", 9, x.look(2));
        x.set(0, 0, 4);
        x.image(false);
        C.due("once more", 9, x.look(2));
    }

    @Says(promise = 40, words = "(the taking of THE IMAGE does not)")
    static void takingForgetsNothing() {
        SpareDay x = realm();
        x.years(2);
        x.image(true);
        C.due("kept", 2, x.look(14));
        x.undo();
        x.undo();
        C.due("year", 0, x.look(1));
        x.image(false);
        C.due("the image's year", 2, x.look(1));
        C.due("nothing can be undone", false, x.undo());
        x.years(1);
        x.undo();
        C.due("what came then goes back", 2, x.look(1));
    }

    // ---- 41: look

    @Says(promise = 41, words = "NONE for another what. (STATE as it is.)")
    static void lookAtAnotherWhat() {
        SpareDay x = realm();
        int[] wrong = {-1, 18, MIN, MAX};
        for (int what : wrong) {
            C.due("what " + what, -1, x.look(what));
        }
        int[] states = {MIN, MAX, -1, -2};
        for (int v : states) {
            x.state(v);
            C.due("state", v, x.look(8));
        }
    }

    @Says(promise = 41, words = "What 0 PEOPLE, 1 YEAR, 2 WEAR, 3 REST, 4 LIMIT, 5 NOTICED, 6 WORTH, 7 lines of THE BOOK, 8 STATE")
    static void whatIs() {
        SpareDay x = realm();
        x.set(1, 0, 5);
        x.set(2, 0, 24);
        x.sit(7);
        x.years(2);
        int[] look = {3, 2, 7, 5, 24, 2, 12, 6, 1196435762};
        for (int what = 0; what < look.length; what++) {
            C.due("look " + what, look[what], x.look(what));
        }
    }

    @Says(promise = 41, words = "9 lines of THE LAW, 10 VOICES, 11 WORKS, 12 PERSONS and mosts of THE COUNCIL, 13 BIDS, 14 what can be undone")
    static void whatWasTold() {
        SpareDay x = realm();
        Check.tell(x, 0, "wear 0; wear 1; wear 2; wear 3;");
        Check.tell(x, 1, "0 names 1; 1 names 2; 2 names 0;");
        Check.tell(x, 3, "most 2 or (0 and most 2) or 0 or 1");
        x.bid(0, 1);
        x.bid(0, 1);
        x.sit(1);
        int[] look = {4, 3, 2, 5, 2, 1};
        for (int i = 0; i < look.length; i++) {
            C.due("look " + (9 + i), look[i], x.look(9 + i));
        }
        for (int k = 0; k < 4; k++) {
            Check.tell(x, k, "");
            C.due("told empty " + k, 0, x.look(9 + k));
        }
    }

    @Says(promise = 41, words = "15 who is GIVEN by VOICES now (NONE), 16, 17 TRACES of dust, wax")
    static void whoIsGivenNow() {
        SpareDay x = realm();
        C.due("1", 1, x.look(15));
        x.set(0, 0, 24);
        C.due("by voices, though it rests", 1, x.look(15));
        Check.tell(x, 0, "weight 0;");
        C.due("nobody", -1, x.look(15));
        x.traces(200, 199);
        C.due("dust", 200, x.look(16));
        C.due("wax", 199, x.look(17));
        C.due("nobody draws", 0, x.look(8));
    }
}
