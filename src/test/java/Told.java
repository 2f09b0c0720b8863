/** Tells a text to a realm of three PEOPLE in which 1 has a WORK, and asks what came of it. */
final class Told {
    private Told() {
    }

    static SpareDay realm() {
        SpareDay x = Check.people(3);
        Check.tell(x, 2, "work 1 for 1 worth 1 dust 1 wax 1;");
        return x;
    }

    static void good(Check c, SpareDay x, int k, String text, int lines) {
        c.due("told: " + text, lines, Check.tell(x, k, text));
        c.due("fault of: " + text, 0, x.fault(0));
        c.due("place of: " + text, -1, x.fault(1));
    }

    /** The FAULT is where the text has a ^, which is left out. */
    static void bad(Check c, int k, String marked, int fault) {
        int place = marked.indexOf('^');
        String text = marked.substring(0, place) + marked.substring(place + 1);
        SpareDay x = realm();
        c.due("told: " + marked, -1, Check.tell(x, k, text));
        c.due("fault of: " + marked, fault, x.fault(0));
        c.due("place of: " + marked, place, x.fault(1));
        c.due("the tape behind: " + marked, false, x.end(1));
    }
}
