import java.io.IOException;

/** Promises 8 to 11: a test for each sentence of DOC.md that names an edge. */
public final class EdgesOfTextsTest {
    private static final Check C = new Check();
    private static final int MAX = Integer.MAX_VALUE;
    private static final int MIN = Integer.MIN_VALUE;
    private static final String[] WORDS = {"weight", "wear", "notice"};

    public static void main(String[] args) throws IOException {
        Edges.run(C, EdgesOfTextsTest.class, 8, 11);
    }

    private static void good(int k, String text, int lines) {
        Told.good(C, Told.realm(), k, text, lines);
    }

    private static void bad(int k, String marked, int fault) {
        Told.bad(C, k, marked, fault);
    }

    private static int told(String law, int used) {
        SpareDay x = Told.realm();
        C.due("told: " + law, true, Check.tell(x, 0, law) >= 0);
        return x.after(2, used, true);
    }

    private static void sum(String e, int want) {
        C.due(e, want, told("notice " + e + ";", 20));
    }

    private static void so(String b, boolean want) {
        C.due(b, want ? 7 : 3, told("notice 7 when " + b + "; notice 3;", 20));
    }

    // ---- 8: feed

    @Says(promise = 8, words = "Twenty bytes come behind the TAPE, of each number the highest first: how many it has.")
    static void theHighestFirst() {
        SpareDay x = Check.people(2);
        C.due("0 names 1; and blanks", 20, x.feed(0x30206e61, 0x6d657320, 0x313b2020, 0x20202020, 0x20202020));
        C.due("behind it 1 names 0;", 40, x.feed(0x20202020, 0x20202020, 0x31206e61, 0x6d657320, 0x303b2020));
        C.due("told", 2, x.text(1));
        C.due("the first twenty", 1, x.of(0, 5));
        C.due("the second twenty", 0, x.of(1, 5));
        x.feed(0x0a202020, 0x20202020, 0x20202020, 0x20202020, 0x20202030);
        C.due("the last byte is a number", -1, x.text(1));
        C.due("at the end", 20, x.fault(1));
        for (int i = 0; i < 20; i++) {
            int[] n = {0x20202020, 0x20202020, 0x20202020, 0x20202020, 0x20202020};
            n[i / 4] ^= 0xa0 << 24 - i % 4 * 8;
            x.feed(n[0], n[1], n[2], n[3], n[4]);
            C.due("byte 128 at " + i, -1, x.text(0));
            C.due("its place", i, x.fault(1));
            C.due("can't stand", 1, x.fault(0));
        }
    }

    @Says(promise = 8, words = "NONE, and nothing comes, if there would be more than 400.")
    static void fourHundredBytes() {
        SpareDay x = new SpareDay();
        for (int i = 1; i <= 20; i++) {
            C.due("feed", 20 * i, x.feed(MIN, MAX, -1, 0, 0x20202020));
        }
        C.due("full", -1, x.feed(0, 0, 0, 0, 0));
        C.due("nothing came", false, x.end(401));
        for (int n = 399; n > 380; n--) {
            C.due("cut", true, x.end(n));
            C.due("20 more than " + n, -1, x.feed(0, 0, 0, 0, 0));
            C.due("nothing came", false, x.end(n + 1));
        }
        x.end(380);
        C.due("just so", 400, x.feed(0, 0, 0, 0, 0));
    }

    // ---- 9: end

    @Says(promise = 9, words = "The TAPE has its first n bytes alone: true")
    static void theFirstAlone() {
        SpareDay x = Check.people(2);
        Check.put(x, "wear 1;wear 2;");
        C.due("all", true, x.end(14));
        C.due("half", true, x.end(7));
        C.due("one line", 1, x.text(0));
        Check.put(x, "wear 1;wear 2;");
        x.end(8);
        C.due("a byte more", -1, x.text(0));
        C.due("a w is none", 7, x.fault(1));
        Check.put(x, "0 names 1;");
        C.due("none", true, x.end(0));
        C.due("empty", 0, x.text(1));
        Check.put(x, "0 names 1;");
        x.end(8);
        C.due("twenty behind the eight", 28, x.feed(0x303b2020, 0x20202020, 0x20202020, 0x20202020, 0x20202020));
        C.due("names himself: no 1 there", -1, x.text(1));
        C.due("at its place", 8, x.fault(1));
    }

    @Says(promise = 9, words = "false, changing nothing, if it has not so many, or n is below 0.")
    static void notSoMany() {
        SpareDay x = Check.people(2);
        C.due("0 of none", true, x.end(0));
        C.due("1 of none", false, x.end(1));
        Check.put(x, "0 names 1;");
        int[] wrong = {11, 12, 400, 401, MAX, -1, -10, MIN};
        for (int n : wrong) {
            C.due("end " + n, false, x.end(n));
        }
        C.due("as it was", 1, x.text(1));
        C.due("1 of none", false, x.end(1));
    }

    // ---- 10: text

    @Says(promise = 10, words = "The TAPE, empty then, is TEXT k")
    static void emptyThen() {
        String[] texts = {"wear 1;", "0 names 1;", "work 0 for 1 worth 1 dust 1 wax 1;", "0"};
        for (int k = 0; k < 4; k++) {
            SpareDay x = Check.people(2);
            C.due("told " + k, 1, Check.tell(x, k, texts[k]));
            C.due("empty", false, x.end(1));
            C.due("empty text " + k, 0, x.text(k));
            C.due("its lines", 0, x.look(9 + k));
        }
    }

    @Says(promise = 10, words = "how many lines (THE COUNCIL: PERSONS and mosts)")
    static void howMany() {
        good(0, "", 0);
        good(0, "wear 1; wear 1; weight 2;", 3);
        good(1, "", 0);
        good(1, "2 names 1; 0 names 1;", 2);
        good(2, "", 0);
        good(2, "work 2 for 1 worth 1 dust 1 wax 1; work 0 for 1 worth 1 dust 1 wax 1;", 2);
        good(3, "", 0);
        good(3, "most 1", 1);
        good(3, "((0))", 1);
        good(3, "0 or 0 and (most 3 or 2)", 4);
    }

    @Says(promise = 10, words = "NONE: no such one (fault() tells 0)")
    static void noSuchText() {
        int[] wrong = {-1, 4, MIN, MAX};
        for (int k : wrong) {
            SpareDay x = Told.realm();
            Check.tell(x, 1, "0 names 0;");
            C.due("a fault", 2, x.fault(0));
            C.due("text " + k, -1, Check.tell(x, k, "wear 1;"));
            C.due("fault", 0, x.fault(0));
            C.due("place", -1, x.fault(1));
            C.due("the tape is empty", false, x.end(1));
            C.due("no law", 0, x.look(9));
            C.due("the works stay", 1, x.look(11));
        }
    }

    @Says(promise = 10, words = "or a FAULT (the TEXT stays as it was; the TAPE is empty in each case)")
    static void textStays() {
        SpareDay x = Check.people(3);
        Check.tell(x, 0, "wear 5; notice 6; weight 7;");
        Check.tell(x, 1, "0 names 1; 1 names 2;");
        Check.tell(x, 2, "work 1 for 3 worth 4 dust 5 wax 6; work 1 for 1 worth 1 dust 0 wax 0 after 0;");
        Check.tell(x, 3, "0 and 1");
        String[] broken = {"wear 1; notice 2; weight 3; wear 4; wear", "2 names 0; 1 names 0; 0 names 0;",
            "work 0 for 9 worth 9 dust 9 wax 9; work 0 for 9 worth 9 dust 9 wax 9; work 0 for 9 worth 9 dust 9 wax 99;", "2 or 1 or 0 or"};
        for (int k = 0; k < 4; k++) {
            C.due("a fault", -1, Check.tell(x, k, broken[k]));
            C.due("the tape is empty", false, x.end(1));
        }
        int[] lines = {3, 2, 2, 2};
        for (int k = 0; k < 4; k++) {
            C.due("lines of " + k, lines[k], x.look(9 + k));
        }
        C.due("wear", 5, x.after(0, 0, false));
        C.due("notice", 6, x.after(0, 0, true));
        C.due("weight", 7, x.of(0, 7));
        int[] names = {1, 2, -1};
        for (int p = 0; p < 3; p++) {
            C.due("names", names[p], x.of(p, 5));
        }
        int[] work = {1, 3, 4, 5, 6, -1, 0};
        for (int what = 0; what < 7; what++) {
            C.due("work", work[what], x.work(0, what));
        }
        C.due("after", 0, x.work(1, 5));
        C.due("0 and 1", true, x.does(3));
        C.due("2", false, x.does(4));
    }

    @Says(promise = 10, words = "letters as many as stand together are KEYWORDS (those told here for that text) or none; digits")
    static void asManyTokensAsBytes() {
        SpareDay x = Told.realm();
        Told.good(C, x, 0, "notice" + "1+".repeat(196) + "1;", 1);
        C.due("a sum of 197", 197, x.after(0, 0, true));
        Told.good(C, x, 0, "wear1when" + "1<2or".repeat(77) + "1<2  ;", 1);
        C.due("78 conditions", 1, x.after(0, 0, false));
        Told.good(C, x, 3, "0or".repeat(133) + "0", 134);
        C.due("0", true, x.does(1));
        C.due("134 times 0", false, x.does(6));
        Told.good(C, x, 1, "0 names 1;" + " ".repeat(390), 1);
        C.due("a full tape", 1, x.of(0, 5));
    }

    @Says(promise = 10, words = "0 THE LAW = {(weight | wear | notice) E [when B] ;}.")
    static void lawsLines() {
        good(0, "weight 1;", 1);
        good(0, "wear 1 when 1 = 1;", 1);
        good(0, "notice 1;notice 2;", 2);
        bad(0, "^names 1;", 1);
        bad(0, "^1;", 1);
        bad(0, "^;", 1);
        bad(0, "wear ^;", 1);
        bad(0, "wear ^when 1 = 1;", 1);
        bad(0, "wear 1 when ^;", 1);
        bad(0, "wear 1 when 1^;", 1);
        bad(0, "wear 1^", 1);
        bad(0, "wear 1 ^wear 2;", 1);
        bad(0, "wear 1;^;", 1);
        bad(0, "wear 1 when 1 = 1 ^when 1 = 1;", 1);
    }

    @Says(promise = 10, words = "B = A {or A}.  A = C {and C}.")
    static void andBindsMoreThanOr() {
        so("1 = 1 or 1 = 1 and 1 = 2", true);
        so("1 = 2 and 1 = 1 or 1 = 1", true);
        so("1 = 1 and 1 = 2 or 1 = 2", false);
        so("1 = 2 or 1 = 2", false);
        so("1 = 2 or 1 = 1", true);
        so("1 = 1 and 1 = 1", true);
        so("1 = 1 and 1 = 2", false);
        so("1 = 2 or 1 = 1 and 1 = 1 and 1 = 2 or 1 = 2", false);
        bad(0, "wear 1 when 1 = 1 or^;", 1);
        bad(0, "wear 1 when 1 = 1 and^;", 1);
        bad(0, "wear 1 when ^or 1 = 1;", 1);
        bad(0, "wear 1 when ^and 1 = 1;", 1);
        bad(0, "wear 1 when 1 = 1 or ^and 1 = 1;", 1);
    }

    @Says(promise = 10, words = "C = E (< | = | >) E | not C | ( B ).")
    static void conditions() {
        so("1 < 2", true);
        so("2 < 2", false);
        so("3 < 2", false);
        so("1 = 2", false);
        so("2 = 2", true);
        so("3 = 2", false);
        so("1 > 2", false);
        so("2 > 2", false);
        so("3 > 2", true);
        so("0 - 1 < 0", true);
        so("1 + 1 = 4 / 2", true);
        so("not 1 = 2", true);
        so("not not 1 = 2", false);
        so("not 1 = 2 and 1 = 2", false);
        so("not 1 = 1 or 1 = 1", true);
        so("not (1 = 1 or 1 = 1)", false);
        so("(1 = 1 or 1 = 1) and 1 = 2", false);
        bad(0, "wear 1 when 1 + ^= 1;", 1);
        bad(0, "wear 1 when 1 = 1 ^= 1;", 1);
        bad(0, "wear 1 when 1 <^= 1;", 1);
        bad(0, "wear 1 when (1^) = 1;", 1);
        bad(0, "wear 1 when (^);", 1);
        bad(0, "wear 1 when (1 = 1^;", 1);
        bad(0, "wear 1 when 1 = 1^);", 1);
        bad(0, "wear 1 when not^;", 1);
        bad(0, "wear 1 when 1 ^not = 1;", 1);
    }

    @Says(promise = 10, words = "E = T {(+ | -) T}.")
    static void sumsFromTheLeft() {
        sum("9 - 4 - 3", 2);
        sum("9 - 4 + 3", 8);
        sum("9 + 4 - 3", 10);
        sum("2 + 3 * 4", 14);
        sum("20 - 3 * 4", 8);
        sum("3 * 4 - 2", 10);
        bad(0, "wear ^+ 1;", 1);
        bad(0, "wear ^- 1;", 1);
        bad(0, "wear 1 +^;", 1);
        bad(0, "wear 1 - ^- 1;", 1);
        bad(0, "wear ^(1);", 1);
    }

    @Says(promise = 10, words = "T = U {* U | / NUMBER}.")
    static void partsFromTheLeft() {
        sum("20 / 3 * 3", 18);
        sum("3 * 20 / 7", 8);
        sum("100 / 7 / 3", 4);
        sum("used / 20", 1);
        sum("19 / 20", 0);
        sum("9999 / 9999", 1);
        sum("3 * person * used / 1", 120);
        bad(0, "wear 1 / ^used;", 1);
        bad(0, "wear 1 / ^;", 1);
        bad(0, "wear 1 *^;", 1);
        bad(0, "wear 1 * ^/ 1;", 1);
    }

    @Says(promise = 10, words = "U = NUMBER | person | age | need | had | since | worn | year | ties | used.")
    static void everyUnit() {
        SpareDay x = Check.people(3);
        x.set(3, 2, 9);
        x.set(5, 2, 44);
        x.tie(2, 0, true);
        Check.tell(x, 0, "wear 1;");
        Check.tell(x, 1, "0 names 2;");
        x.years(3);
        Check.tell(x, 1, "");
        x.years(4);
        x.sit(2);
        String[] words = {"person", "age", "need", "had", "since", "worn", "year", "ties", "used", "0", "9999"};
        int[] facts = {2, 51, 9, 3, 4, 5, 7, 1, 17, 0, 1000};
        for (int i = 0; i < words.length; i++) {
            C.due("told", 1, Check.tell(x, 0, "notice " + words[i] + ";"));
            C.due(words[i], facts[i], x.after(2, 17, true));
        }
        String[] not = {"names", "work", "most", "when", "weight", "dust", "or", "by"};
        for (String word : not) {
            bad(0, "notice ^" + word + ";", 1);
        }
    }

    @Says(promise = 10, words = "1 VOICES = {PERSON names PERSON ;} (each names once at most, not himself.)")
    static void eachNamesOnce() {
        good(1, "0 names 1; 1 names 0; 2 names 0;", 3);
        bad(1, "0 names 1; ^0 names 2;", 2);
        bad(1, "0 names 1; ^0 names 1;", 2);
        bad(1, "0 names ^0;", 2);
        bad(1, "1 names 0; 2 names ^2;", 2);
        bad(1, "^names 1;", 1);
        bad(1, "0 ^1;", 1);
        bad(1, "0 names^;", 1);
        bad(1, "0 names 1 ^1 names 0;", 1);
        bad(1, "0 names 1^", 1);
        SpareDay x = Told.realm();
        Check.tell(x, 1, "0 names 1;");
        C.due("told anew he may name again", 1, Check.tell(x, 1, "0 names 2;"));
        C.due("another", 2, x.of(0, 5));
    }

    @Says(promise = 10, words = "(for 1 .. 24, worth 0 .. 99, dust, wax 0 .. 9; after: one told ahead, of the same PERSON; 12 at most.)")
    static void worksBounds() {
        good(2, "work 0 for 1 worth 0 dust 0 wax 0;", 1);
        good(2, "work 2 for 24 worth 99 dust 9 wax 9;", 1);
        bad(2, "work 0 for ^0 worth 0 dust 0 wax 0;", 2);
        bad(2, "work 0 for ^25 worth 0 dust 0 wax 0;", 2);
        bad(2, "work 0 for 1 worth ^100 dust 0 wax 0;", 2);
        bad(2, "work 0 for 1 worth 0 dust ^10 wax 0;", 2);
        bad(2, "work 0 for 1 worth 0 dust 0 wax ^10;", 2);
        bad(2, "work ^3 for 1 worth 0 dust 0 wax 0;", 2);
        bad(2, "work 0 for 1 worth ^-1 dust 0 wax 0;", 1);
        bad(2, "^for 1 worth 0 dust 0 wax 0;", 1);
        bad(2, "work 0 ^worth 0 dust 0 wax 0;", 1);
        bad(2, "work 0 for 1 ^dust 0 wax 0;", 1);
        bad(2, "work 0 for 1 worth 0 ^wax 0;", 1);
        bad(2, "work 0 for 1 worth 0 dust 0^;", 1);
        bad(2, "work 0 for 1 worth 0 dust 0 wax 0^", 1);
    }

    @Says(promise = 10, words = "after: one told ahead, of the same PERSON")
    static void afterOneToldAhead() {
        String two = "work 0 for 1 worth 0 dust 0 wax 0; work 1 for 1 worth 0 dust 0 wax 0;";
        good(2, two + "work 0 for 1 worth 0 dust 0 wax 0 after 0;", 3);
        good(2, two + "work 1 for 1 worth 0 dust 0 wax 0 after 1; work 1 for 1 worth 0 dust 0 wax 0 after 2;", 4);
        bad(2, two + "work 0 for 1 worth 0 dust 0 wax 0 after ^1;", 2);
        bad(2, two + "work 1 for 1 worth 0 dust 0 wax 0 after ^0;", 2);
        bad(2, two + "work 0 for 1 worth 0 dust 0 wax 0 after ^2;", 2);
        bad(2, two + "work 0 for 1 worth 0 dust 0 wax 0 after ^3;", 2);
        bad(2, two + "work 0 for 1 worth 0 dust 0 wax 0 after ^9999;", 2);
        bad(2, "work 0 for 1 worth 0 dust 0 wax 0 after ^0;", 2);
        bad(2, two + "work 0 for 1 worth 0 dust 0 wax 0 after^;", 1);
        bad(2, two + "work 0 for 1 worth 0 dust 0 wax 0 after 0 ^after 0;", 1);
        bad(2, two + "work 0 for 1 worth 0 dust 0 ^after 0 wax 0;", 1);
    }

    @Says(promise = 10, words = "12 at most.)")
    static void twelveWorks() {
        String one = "work0for1worth1dust1wax1;";
        good(2, one.repeat(11), 11);
        good(2, one.repeat(12), 12);
        bad(2, one.repeat(12) + "^" + one, 3);
        SpareDay x = Told.realm();
        Check.tell(x, 2, one.repeat(11) + "work0for2worth3dust4wax5after10;");
        int[] last = {0, 2, 3, 4, 5, 10, 0};
        for (int what = 0; what < 7; what++) {
            C.due("the last", last[what], x.work(11, what));
        }
        C.due("no more", -2, x.work(12, 0));
    }

    @Says(promise = 10, words = "Told anew none is DONE.")
    static void toldAnew() {
        String works = "work 1 for 1 worth 1 dust 0 wax 0; work 1 for 1 worth 1 dust 0 wax 0;";
        SpareDay x = Check.people(2);
        Check.tell(x, 1, "0 names 1;");
        Check.tell(x, 2, works);
        x.years(1);
        C.due("done", 2, x.work(0, 6) + x.work(1, 6));
        Check.tell(x, 2, works + "work");
        C.due("a fault: done still", 2, x.work(0, 6) + x.work(1, 6));
        Check.tell(x, 2, works);
        C.due("none is done", 0, x.work(0, 6) + x.work(1, 6));
        C.due("planned again", 3, x.plan(1, 24, 2));
        C.due("worth stays", 2, x.look(6));
        x.years(1);
        C.due("and done again", 4, x.look(6));
    }

    @Says(promise = 10, words = "(most N: N PEOPLE at least, N 1 .. 10; empty: any set of voices does)")
    static void mostOneToTen() {
        good(3, "most 1", 1);
        good(3, "most 10", 1);
        bad(3, "most ^0", 2);
        bad(3, "most ^11", 2);
        bad(3, "most^", 1);
        bad(3, "most ^most", 1);
        SpareDay x = Check.people(10);
        C.due("empty: the empty set", true, x.does(0));
        for (int n = 1; n <= 10; n++) {
            Check.tell(x, 3, "most " + n);
            C.due("n", true, x.does((1 << n) - 1));
            C.due("the last n", true, x.does(1023 & ~((1 << 10 - n) - 1)));
            C.due("one fewer", false, x.does((1 << n - 1) - 1));
            C.due("all", true, x.does(1023));
        }
        Check.tell(x, 3, "");
        C.due("empty again", true, x.does(0));
    }

    @Says(promise = 10, words = "3 THE COUNCIL = RULE, RULE = ANY {or ANY}, ANY = ONE {and ONE}, ONE = PERSON | most N | ( RULE )")
    static void councilsShape() {
        bad(3, "^or 0", 1);
        bad(3, "0 or^", 1);
        bad(3, "0 and^", 1);
        bad(3, "0 ^1", 1);
        bad(3, "0^;", 1);
        bad(3, "^not 0", 1);
        bad(3, "(^)", 1);
        bad(3, "(0^", 1);
        bad(3, "(0)^)", 1);
        SpareDay x = Told.realm();
        Check.tell(x, 3, "0 or 1 and 2");
        C.due("and binds more", true, x.does(1));
        C.due("and binds more", false, x.does(4));
        Check.tell(x, 3, "(0 or 1) and 2");
        C.due("brackets", false, x.does(1));
        C.due("brackets", true, x.does(6));
    }

    @Says(promise = 10, words = "TOKENS: letters as many as stand together are KEYWORDS (those told here for that text) or none")
    static void lettersTogether() {
        good(0, "wear1when1=1and2=2;", 1);
        good(1, "0names1;", 1);
        bad(0, "^wears 1;", 1);
        bad(0, "^wea 1;", 1);
        bad(0, "^WEAR 1;", 1);
        bad(0, "^wearworn;", 1);
        bad(0, "wear ^wornworn;", 1);
        bad(1, "0 ^namesx 1;", 1);
        bad(1, "0 ^worn 1;", 1);
        bad(2, "^weight 0 for 1", 1);
        bad(3, "^person", 1);
        bad(3, "0 ^names 1", 1);
    }

    @Says(promise = 10, words = "digits as many as stand together NUMBERS of 1 to 4 digits or none")
    static void digitsTogether() {
        sum("0", 0);
        sum("0000", 0);
        sum("0009", 9);
        sum("9999 - 9990", 9);
        bad(0, "wear ^10000;", 1);
        bad(0, "wear ^00000;", 1);
        bad(0, "wear 1 / ^00000;", 1);
        bad(0, "wear ^99999999999999999999;", 1);
        bad(0, "wear 1 ^1;", 1);
        good(1, "0000 names 0002;", 1);
        bad(1, "^00000 names 2;", 1);
        bad(3, "most ^00001", 1);
    }

    @Says(promise = 10, words = "Blanks (32, 10) between.")
    static void blanksBetween() {
        good(0, " \n wear \n 1 \n ; \n ", 1);
        good(0, "wear\n1;", 1);
        good(3, " \n ", 0);
        int[] not = {0, 9, 11, 13, 31, 33, 127, 128, 160, 255};
        for (int c : not) {
            bad(0, "wear^" + (char) c + "1;", 1);
            bad(0, "^" + (char) c, 1);
        }
        bad(0, "^we ar 1;", 1);
        bad(0, "wear 1 ^2;", 1);
    }

    @Says(promise = 10, words = "Ints, which wrap; / goes towards 0.")
    static void intsWrap() {
        // 9999 * 9999 * 9999 is -1027349969 as an int; its half is -513674984 towards 0
        so("9999 * 9999 > 0", true);
        so("9999 * 9999 * 9999 < 0", true);
        so("9999 * 9999 * 9999 / 2 + 5 * 9999 * 9999 + 1377 * 9999 + 6356 = 0", true);
        so("9999 * 9999 * 9999 + 10 * 9999 * 9999 + 2754 * 9999 + 6356 * 2 + 1 = 0", true);
        so("0 - 9999 * 9999 * 9999 > 0", true);
        so("9999 * 9999 * 20 + 9999 * 9999 * 2 < 0", true);
        sum("5 - 9999 * 9999 * 9999 / 9999 / 9999 / 9999", 5);
        sum("5 - 9999 * 9999 * 9999 / 9999 / 9999", 15);
        sum("8 - 7 / 2", 5);
    }

    @Says(promise = 10, words = "E of the first line with that word whose B is so, or that has none")
    static void theFirstLine() {
        String law = "notice 1 when used > 20; wear 9; notice 2 when used > 10; notice 3; notice 4 when used = 0; notice 5;";
        int[] used = {24, 21, 20, 11, 10, 0};
        int[] want = {1, 1, 2, 2, 3, 3};
        for (int i = 0; i < used.length; i++) {
            C.due("used " + used[i], want[i], told(law, used[i]));
        }
    }

    @Says(promise = 10, words = "(none: weight 1, wear: used by 8, notice 100)")
    static void noLine() {
        String[] laws = {"", "weight 9 when 1 = 2; wear 9 when 1 = 2; notice 9 when 1 = 2;"};
        for (String law : laws) {
            SpareDay x = Told.realm();
            Check.tell(x, 0, law);
            C.due("weight", 1, x.of(0, 7));
            int[] used = {0, 7, 8, 15, 16, 23, 24};
            int[] wear = {0, 0, 1, 1, 2, 2, 3};
            for (int i = 0; i < used.length; i++) {
                C.due("wear of " + used[i], wear[i], x.after(0, used[i], false));
                C.due("notice of " + used[i], 100, x.after(0, used[i], true));
            }
        }
        SpareDay x = Told.realm();
        Check.tell(x, 0, "weight 5;");
        C.due("a line of another word", 100, x.after(0, 0, true));
    }

    @Says(promise = 10, words = "weight, wear held to 0 .. 24, notice to 0 .. 1000")
    static void held() {
        int[] told = {0, 1, 23, 24, 25, 999, 1000, 1001, 9999};
        for (int v : told) {
            SpareDay x = Told.realm();
            Check.tell(x, 0, "weight " + v + "; wear " + v + "; notice " + v + ";");
            C.due("weight " + v, Math.min(24, v), x.of(0, 7));
            C.due("wear " + v, Math.min(24, v), x.after(0, 0, false));
            C.due("notice " + v, Math.min(1000, v), x.after(0, 0, true));
            Check.tell(x, 0, "weight 0 - " + v + "; wear 0 - " + v + "; notice 0 - " + v + ";");
            C.due("weight less", 0, x.of(0, 7));
            C.due("wear less", 0, x.after(0, 0, false));
            C.due("notice less", 0, x.after(0, 0, true));
        }
        SpareDay x = Told.realm();
        Check.tell(x, 0, "notice 9999 * 9999 * 9999;");
        C.due("wrapped below 0", 0, x.after(0, 0, true));
    }

    @Says(promise = 10, words = "used: how many HOURS he used (weight: 0)")
    static void weightUsesNone() {
        SpareDay x = Told.realm();
        Check.tell(x, 0, "weight 5 when used = 0; weight 9; wear used; notice used * 2;");
        C.due("weight", 5, x.of(0, 7));
        for (int used = 0; used <= 24; used++) {
            C.due("wear", used, x.after(0, used, false));
            C.due("notice", 2 * used, x.after(0, used, true));
        }
    }

    // ---- 11: fault

    @Says(promise = 11, words = "what 0 the FAULT (0 without one), 1 its place (NONE).")
    static void withoutOne() {
        SpareDay x = Check.people(2);
        C.due("at first", 0, x.fault(0));
        C.due("at first", -1, x.fault(1));
        Check.tell(x, 1, "0 names 1;");
        C.due("told", 0, x.fault(0));
        C.due("told", -1, x.fault(1));
        Check.tell(x, 1, "^");
        C.due("a fault", 1, x.fault(0));
        C.due("at place 0", 0, x.fault(1));
    }

    @Says(promise = 11, words = "Of the latest text()")
    static void ofTheLatest() {
        SpareDay x = Check.people(2);
        Check.tell(x, 1, "0 names 0;");
        C.due("a fault", 2, x.fault(0));
        C.due("its place", 8, x.fault(1));
        x.years(1);
        x.undo();
        x.image(true);
        x.image(false);
        x.feed(1, 2, 3, 4, 5);
        x.end(0);
        C.due("still", 2, x.fault(0));
        C.due("still", 8, x.fault(1));
        Check.tell(x, 0, "wear");
        C.due("another", 1, x.fault(0));
        C.due("its place", 4, x.fault(1));
        Check.tell(x, 0, "");
        C.due("none", 0, x.fault(0));
        C.due("none", -1, x.fault(1));
    }

    @Says(promise = 11, words = "NONE for another what.")
    static void faultOfAnotherWhat() {
        SpareDay x = Check.people(2);
        int[] wrong = {-1, 2, MIN, MAX};
        for (int what : wrong) {
            C.due("without a fault " + what, -1, x.fault(what));
        }
        Check.tell(x, 1, "0 names 0;");
        for (int what : wrong) {
            C.due("with a fault " + what, -1, x.fault(what));
        }
    }

    @Says(promise = 11, words = "FAULTS, the first by its place, at one place the least")
    static void theFirstByItsPlace() {
        bad(0, "wear 1 / ^0 wear", 2);
        bad(0, "wear ^wear 1 / 0;", 1);
        bad(1, "^7 names 7 names;", 2);
        bad(1, "0 names ^7 1 names", 2);
        bad(1, "0 ^0 names 0", 1);
        bad(2, "work ^9 for 99 worth 999", 2);
        bad(2, "work 0 for ^99 worth 999", 2);
        bad(2, "work 0 ^99 worth", 1);
        bad(3, "most ^0 0", 2);
        bad(3, "((((((((^(", 3);
        bad(3, "((((((((0 ^(", 1);
        bad(2, "work0for1worth1dust1wax1;".repeat(12) + "^work 9 for 99", 3);
        bad(2, "work0for1worth1dust1wax1;".repeat(12) + "^for", 1);
    }

    @Says(promise = 11, words = "1 what can't stand there (the end: the text's length)")
    static void theEnd() {
        bad(0, "wear^", 1);
        bad(0, "wear \n^", 1);
        bad(0, "wear 1^", 1);
        bad(0, "wear 1    ^", 1);
        bad(1, "0^", 1);
        bad(2, "work^", 1);
        bad(3, "most^", 1);
        bad(3, "(0 or 1   ^", 1);
        bad(3, "(".repeat(8) + "^" + "(".repeat(392), 3);
        bad(0, "^" + ";".repeat(400), 1);
        String full = "wear 1;" + " ".repeat(389) + "wear";
        bad(0, full + "^", 1);
        C.due("a full tape", 400, full.length());
    }

    @Says(promise = 11, words = "2 (at the NUMBER) a part by 0")
    static void aPartByZero() {
        bad(0, "wear 1 / ^0;", 2);
        bad(0, "wear 1 / ^0000;", 2);
        bad(0, "wear 1 / 2 / ^0;", 2);
        bad(0, "wear 1 when 1 / ^0 = 1;", 2);
        good(0, "wear 1 / 1;", 1);
        good(0, "wear 0 / 9999;", 1);
    }

    @Says(promise = 11, words = "one beyond its bounds")
    static void beyondItsBounds() {
        bad(2, "work 0 for ^0", 2);
        bad(2, "work 0 for ^25", 2);
        bad(2, "work 0 for 24 worth ^100", 2);
        bad(2, "work 0 for 24 worth 99 dust ^10", 2);
        bad(2, "work 0 for 24 worth 99 dust 9 wax ^10", 2);
        bad(3, "0 or most ^0", 2);
        bad(3, "0 or most ^11", 2);
        bad(3, "0 or most ^9999", 2);
    }

    @Says(promise = 11, words = "a PERSON that there is not, who named already, or names himself")
    static void whoThereIsNot() {
        bad(1, "^3 names 0;", 2);
        bad(1, "^9999 names 0;", 2);
        bad(1, "2 names ^3;", 2);
        bad(1, "2 names 0; ^2 names 1;", 2);
        bad(1, "2 names ^2;", 2);
        bad(2, "work ^3 for", 2);
        bad(3, "^3", 2);
        bad(3, "2 or ^10", 2);
        SpareDay x = new SpareDay();
        C.due("nobody at all", -1, Check.tell(x, 3, "0"));
        C.due("fault", 2, x.fault(0));
        C.due("place", 0, x.fault(1));
        x.person(1, 1);
        C.due("he came", 1, Check.tell(x, 3, "0"));
    }

    @Says(promise = 11, words = "a WORK that can't be after")
    static void cantBeAfter() {
        bad(2, "work0for1worth1dust1wax1after ^0;", 2);
        bad(2, "work0for1worth1dust1wax1; work0for1worth1dust1wax1after ^1;", 2);
        bad(2, "work0for1worth1dust1wax1; work1for1worth1dust1wax1after ^0;", 2);
    }

    @Says(promise = 11, words = "3 (at its KEYWORD) the 17th line of THE LAW, the 13th WORK")
    static void theSeventeenthLine() {
        for (String word : WORDS) {
            String line = word + " 1;";
            good(0, line.repeat(16), 16);
            bad(0, line.repeat(16) + "^" + line, 3);
            bad(0, line.repeat(16) + " ^" + word, 3);
            bad(0, line.repeat(16) + "^;", 1);
            bad(0, line.repeat(16) + "^names", 1);
        }
        bad(2, "work0for1worth1dust1wax1;".repeat(12) + " ^work", 3);
        bad(2, "work0for1worth1dust1wax1;".repeat(12) + "^0", 1);
    }

    @Says(promise = 11, words = "(at it) the 9th ( or not that is open")
    static void theNinthOpen() {
        good(0, "wear 1 when " + "(".repeat(8) + "1 = 1" + ")".repeat(8) + ";", 1);
        bad(0, "wear 1 when " + "(".repeat(8) + "^(1 = 1" + ")".repeat(9) + ";", 3);
        good(0, "wear 1 when " + "not ".repeat(8) + "1 = 1;", 1);
        bad(0, "wear 1 when " + "not ".repeat(8) + "^not 1 = 1;", 3);
        good(0, "wear 1 when " + "not (".repeat(4) + "1 = 1" + ")".repeat(4) + ";", 1);
        bad(0, "wear 1 when " + "not (".repeat(4) + "^not 1 = 1", 3);
        bad(0, "wear 1 when " + "not (".repeat(4) + "^(", 3);
        bad(0, "wear 1 when (" + "not (".repeat(3) + "not ^(", 3);
        good(0, "wear 1 when " + "not ".repeat(8) + "1 = 1 and " + "(".repeat(8) + "1 = 1" + ")".repeat(8) + " or not 1 = 1;", 1);
        good(0, "wear 1 when (((((((not 1 = 1 and not 1 = 1 or (1 = 1))))))));", 1);
        good(3, "(".repeat(8) + "0" + ")".repeat(8) + " or " + "(".repeat(8) + "0" + ")".repeat(8), 2);
        bad(3, "(".repeat(8) + "^(0", 3);
        bad(3, "(".repeat(8) + "0 or ^(0", 3);
        bad(3, "(".repeat(8) + "^not", 1);
    }
}
