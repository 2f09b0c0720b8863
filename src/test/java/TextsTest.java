/** Promises 10 and 11: what can be told as a text, and each FAULT at its place. */
public final class TextsTest {
    private static final Check C = new Check();

    public static void main(String[] args) {
        tokens();
        law();
        lawsFaults();
        sums();
        conditions();
        everyFact();
        depth();
        voices();
        works();
        council();
        C.finish();
    }

    private static SpareDay realm() {
        return Told.realm();
    }

    private static void good(SpareDay x, int k, String text, int lines) {
        Told.good(C, x, k, text, lines);
    }

    private static void bad(int k, String marked, int fault) {
        Told.bad(C, k, marked, fault);
    }

    private static void tokens() {
        SpareDay x = realm();
        good(x, 0, "wear 1;", 1);
        good(x, 0, "wear1;wear2;", 2);
        good(x, 0, "\n  wear\n1 ; \n", 1);
        good(x, 0, "weight 2when 1=1and 2=2;", 1);
        good(x, 0, "  \n", 0);
        good(x, 0, "wear 0009;", 1);
        good(x, 1, "0000names0001;", 1);
        bad(0, "^wearx 1;", 1);
        bad(0, "^weightwear 1;", 1);
        bad(0, "^wea 1;", 1);
        bad(0, "^Wear 1;", 1);
        bad(0, "^wearA 1;", 1);
        bad(0, "^wearZ 1;", 1);
        bad(0, "^weara 1;", 1);
        bad(0, "^wearz 1;", 1);
        bad(0, "wear^[1;", 1);
        bad(0, "wear^{1;", 1);
        bad(0, "wear^@1;", 1);
        bad(0, "wear^`1;", 1);
        bad(0, "wear 1^:2;", 1);
        bad(0, "wear ^00001;", 1);
        bad(0, "wear 1^a;", 1);
        bad(0, "wear 1 ^2;", 1);
        bad(0, "wear 1^\t;", 1);
        bad(0, "wear 1^\r;", 1);
        bad(0, "wear 1^" + (char) 0 + ";", 1);
        bad(0, "wear^" + (char) 233 + "1;", 1);
        bad(0, "wear 1^.", 1);
        bad(0, "wear 1^,", 1);
        bad(0, "wear 1;^;", 1);
        bad(0, "wear 1  \n ^", 1);
        bad(0, "^12345", 1);
    }

    private static void law() {
        SpareDay x = realm();
        good(x, 0, "", 0);
        StringBuilder lines = new StringBuilder();
        for (int i = 0; i < 16; i++) {
            lines.append("notice ").append(i).append(" when used = ").append(i).append(';');
        }
        good(x, 0, lines.toString(), 16);
        for (int i = 0; i < 16; i++) {
            C.due("line " + i, i, x.after(0, i, true));
        }
        C.due("no line", 100, x.after(0, 16, true));
        C.due("no line of that word", 2, x.after(0, 16, false));
        good(x, 0, "wear 5 when used > 3; wear 6 when used > 2; wear 7; wear 8 when used = 0;", 4);
        C.due("the first", 5, x.after(0, 4, false));
        C.due("the second", 6, x.after(0, 3, false));
        C.due("the one without", 7, x.after(0, 0, false));
        C.due("weight is another", 1, x.of(0, 7));
    }

    private static void lawsFaults() {
        StringBuilder lines = new StringBuilder();
        for (int i = 0; i < 16; i++) {
            lines.append("wear 1;");
        }
        bad(0, lines + "  ^notice 1;", 3);
        bad(0, lines + "  ^when 1;", 1);
        bad(0, lines + "^1", 1);
        good(realm(), 0, lines.toString(), 16);
        bad(0, "^names 1;", 1);
        bad(0, "^1;", 1);
        bad(0, "^person 1;", 1);
        bad(0, "wear ^wear;", 1);
        bad(0, "wear ^names;", 1);
        bad(0, "wear ^-1;", 1);
        bad(0, "wear ^(1);", 1);
        bad(0, "wear 1 +^;", 1);
        bad(0, "wear 1 * ^when 1=1;", 1);
        bad(0, "wear 6 / ^person;", 1);
        bad(0, "wear 6 / ^0;", 2);
        bad(0, "wear 6 / ^00000;", 1);
        bad(0, "wear 6 / 2 / ^0000;", 2);
        bad(0, "wear 1 ^= 1;", 1);
        bad(0, "wear 1 ^and 1 = 1;", 1);
        bad(0, "wear 1 when ^;", 1);
        bad(0, "wear 1 when 1^;", 1);
        bad(0, "wear 1 when 1 = ^;", 1);
        bad(0, "wear 1 when 1 = 1 ^= 1;", 1);
        bad(0, "wear 1 when 1 = 1 or ^;", 1);
        bad(0, "wear 1 when 1 = 1 and ^or 1 = 1;", 1);
        bad(0, "wear 1 when (1 + ^) = 1;", 1);
        bad(0, "wear 1 when (1^) = 1;", 1);
        bad(0, "wear 1 when (1 = 1^;", 1);
        bad(0, "wear 1 when (1 = 1)^);", 1);
        bad(0, "wear 1 when not^;", 1);
        bad(0, "wear 1 when 1 = 1 ^not 1 = 1;", 1);
        bad(0, "wear 1 when (^) or 1 = 1;", 1);
        bad(0, "wear 1 when 1 = 1 ^when 1 = 1;", 1);
        bad(0, "wear ^most;", 1);
        bad(0, "wear 1 when 1 <^= 1;", 1);
    }

    private static void sum(String e, int want) {
        SpareDay x = realm();
        C.due("told: " + e, 1, Check.tell(x, 0, "notice 1 + " + e + " when " + e + " = " + e + ";"));
        C.due(e, want + 1, x.after(2, 20, true));
    }

    private static void sums() {
        sum("7 - 2 - 3", 2);
        sum("7 / 1", 7);
        sum("7 - 2 + 3", 8);
        sum("2 + 3 * 4", 14);
        sum("2 * 3 + 4", 10);
        sum("20 / 3 * 2", 12);
        sum("2 * 20 / 3", 13);
        sum("100 / 3 / 3", 11);
        sum("used * used - 300", 100);
        sum("900 - used / 7 * 7", 886);
        sum("used - 50 / 7 + 1", 14);
        sum("need * person * 3 / 4", 7);
        SpareDay x = realm();
        Check.tell(x, 0, "notice 500 when 0 - 9 < 0; notice 1;");
        C.due("below 0", 500, x.after(0, 0, true));
        Check.tell(x, 0, "notice 500 when 3 - 10 = 0 - 7 and 2 - 9 * 1 / 2 = 2 - 4; notice 1;");
        C.due("parts of NUMBERS", 500, x.after(0, 0, true));
        Check.tell(x, 0, "notice 500 when 9999 * 9999 * 9999 < 0; notice 1;");
        C.due("ints wrap: 999700029999 is 0 - 1029480833", (int) 999700029999L < 0 ? 500 : 1, x.after(0, 0, true));
        // 9999 * 9999 * 9999 wraps to a negative int, and / goes towards 0 there
        int wrapped = (int) 999700029999L;
        Check.tell(x, 0, "notice 0 - 9999 * 9999 * 9999 / 9999 / 9999 * 10;");
        C.due("towards 0", Math.max(0, Math.min(1000, -(wrapped / 9999 / 9999 * 10))), x.after(0, 0, true));
        C.due("as it was reckoned", true, wrapped < 0);
    }

    private static void when(String b, boolean want) {
        SpareDay x = realm();
        C.due("told: " + b, 2, Check.tell(x, 0, "notice 500 when " + b + "; notice 1;"));
        C.due(b, want ? 500 : 1, x.after(2, 20, true));
    }

    private static void conditions() {
        when("1 < 2", true);
        when("2 < 2", false);
        when("3 > 2", true);
        when("2 > 2", false);
        when("2 = 2", true);
        when("2 = 3", false);
        when("1 + 1 = 2 * 1", true);
        when("not 1 = 2", true);
        when("not 1 = 1", false);
        when("not not 1 = 1", true);
        when("1 = 1 or 1 = 2 and 1 = 2", true);
        when("(1 = 1 or 1 = 2) and 1 = 2", false);
        when("1 = 2 and 1 = 2 or 1 = 1", true);
        when("1 = 2 and (1 = 2 or 1 = 1)", false);
        when("not 1 = 2 and 1 = 2", false);
        when("not (1 = 2 and 1 = 2)", true);
        when("not 1 = 1 or 1 = 1", true);
        when("not (1 = 1 or 1 = 1)", false);
        when("1 = 2 or 1 = 2 or 1 = 1", true);
        when("1 = 1 and 1 = 1 and 1 = 2", false);
        when("1 = 2 or 1 = 1 and 1 = 1 or 1 = 2", true);
        when("(((1 = 1)))", true);
    }

    private static void everyFact() {
        SpareDay x = realm();
        x.set(3, 2, 9);
        x.set(5, 2, 44);
        x.tie(2, 0, true);
        x.tie(2, 1, true);
        Check.tell(x, 0, "wear 1;");
        Check.tell(x, 1, "0 names 2;");
        x.years(2);
        Check.tell(x, 1, "");
        x.years(4);
        x.sit(3);
        String[] words = {"person", "age", "need", "had", "since", "worn", "year", "ties", "used"};
        int[] facts = {2, 50, 9, 2, 4, 5, 6, 2, 17};
        for (int i = 0; i < words.length; i++) {
            Check.tell(x, 0, "notice " + words[i] + ";");
            C.due(words[i], facts[i], x.after(2, 17, true));
            Check.tell(x, 0, "weight " + words[i] + " / 4;");
            C.due("weight by " + words[i], (i == 8 ? 0 : facts[i]) / 4, x.of(2, 7));
        }
    }

    private static void depth() {
        SpareDay x = realm();
        good(x, 0, "wear 1 when ((((((((1 = 1))))))));", 1);
        bad(0, "wear 1 when ((((((((^(1 = 1)))))))));", 3);
        good(x, 0, "wear 1 when not not not not not not not not 1 = 1;", 1);
        bad(0, "wear 1 when not (not (not (not (^not 1 = 1))));", 3);
        good(x, 0, "wear 1 when not (not (not (not (1 = 1 or 1 = 1) and 1 = 1))) or (((((((1 = 1)))))));", 1);
        good(x, 0, "wear 1 when not not not not not not not not 1 = 1 and not not not not not not not not 1 = 1;", 1);
        good(x, 0, "wear 1 when (((((((not 1 = 1 and not 1 = 1 or (1 = 1))))))));", 1);
        bad(0, "wear 1 when (((((((not ^(1 = 1))))))));", 3);
        good(x, 3, "((((((((1))))))))", 1);
        bad(3, "((((((((^(1)))))))))", 3);
        good(x, 3, "(((((((1 or (2) and (0)))))))) or ((((((((1))))))))", 4);
        bad(3, "((((((((1 or ^(", 3);
        bad(3, "((((((((1 ^(", 1);
    }

    private static void voices() {
        SpareDay x = realm();
        good(x, 1, "", 0);
        good(x, 1, "2 names 0;1 names 0;0 names 2;", 3);
        C.due("2", 0, x.of(2, 5));
        C.due("1", 0, x.of(1, 5));
        C.due("0", 2, x.of(0, 5));
        bad(1, "^names 1;", 1);
        bad(1, "0^", 1);
        bad(1, "0 ^1;", 1);
        bad(1, "0 names^", 1);
        bad(1, "0 names ^names;", 1);
        bad(1, "0 names 1^", 1);
        bad(1, "0 names 1 ^2;", 1);
        bad(1, "0 names 1; ^;", 1);
        bad(1, "^3 names 0;", 2);
        bad(1, "^9999 names 0;", 2);
        bad(1, "0 names ^3;", 2);
        bad(1, "0 names ^0;", 2);
        bad(1, "0 names 1; 1 names 0; ^0 names 2;", 2);
        bad(1, "0 names 1; 1 names 0; ^0", 2);
        bad(1, "0 ^when 1;", 1);
        x = new SpareDay();
        C.due("without people", -1, Check.tell(x, 1, "0 names 1;"));
        C.due("nobody there", 2, x.fault(0));
        C.due("at once", 0, x.fault(1));
    }

    private static void works() {
        SpareDay x = realm();
        good(x, 2, "", 0);
        good(x, 2, "work 2 for 24 worth 99 dust 9 wax 9; work 0 for 1 worth 0 dust 0 wax 0; work 2 for 1 worth 0 dust 0 wax 0 after 0;", 3);
        C.due("hours", 24, x.work(0, 1));
        C.due("worth", 99, x.work(0, 2));
        C.due("after", 0, x.work(2, 5));
        StringBuilder twelve = new StringBuilder();
        for (int i = 0; i < 12; i++) {
            twelve.append("work1for2worth3dust4wax5;");
        }
        good(x, 2, twelve.toString(), 12);
        bad(2, twelve + " ^work 0", 3);
        bad(2, twelve + " ^for", 1);
        bad(2, "^for 1", 1);
        bad(2, "^0 for 1", 1);
        bad(2, "work ^3 for 1", 2);
        bad(2, "work ^for 1", 1);
        bad(2, "work 0 ^1", 1);
        bad(2, "work 0 ^worth 1", 1);
        bad(2, "work 0 for ^0 worth", 2);
        bad(2, "work 0 for ^25 worth", 2);
        bad(2, "work 0 for ^worth", 1);
        bad(2, "work 0 for 1 ^dust", 1);
        bad(2, "work 0 for 1 worth ^100 dust", 2);
        bad(2, "work 0 for 1 worth 0 ^wax", 1);
        bad(2, "work 0 for 1 worth 0 dust ^10 wax", 2);
        bad(2, "work 0 for 1 worth 0 dust 0 ^dust", 1);
        bad(2, "work 0 for 1 worth 0 dust 0 wax ^10;", 2);
        bad(2, "work 0 for 1 worth 0 dust 0 wax 0^", 1);
        bad(2, "work 0 for 1 worth 0 dust 0 wax 0 ^work", 1);
        bad(2, "work 0 for 1 worth 0 dust 0 wax 0 after^;", 1);
        bad(2, "work 0 for 1 worth 0 dust 0 wax 0 after ^0;", 2);
        bad(2, "work0for1worth0dust0wax0; work0for1worth0dust0wax0after ^1;", 2);
        bad(2, "work0for1worth0dust0wax0; work0for1worth0dust0wax0after ^2;", 2);
        bad(2, "work1for1worth0dust0wax0; work0for1worth0dust0wax0after ^0;", 2);
        bad(2, "work0for1worth0dust0wax0; work0for1worth0dust0wax0after 0 ^after 0;", 1);
        good(x, 2, "work0for1worth0dust0wax0; work0for1worth0dust0wax0after 0; work0for1worth0dust0wax0after 1;", 3);
    }

    private static void council() {
        SpareDay x = realm();
        good(x, 3, "", 0);
        good(x, 3, " \n ", 0);
        C.due("blanks alone are no rule", true, x.does(0));
        good(x, 3, "most 10", 1);
        good(x, 3, "0 or (1 and most 2) or 0", 4);
        bad(3, "most ^0", 2);
        bad(3, "most ^11", 2);
        bad(3, "most^", 1);
        bad(3, "most ^most 1", 1);
        bad(3, "^3", 2);
        bad(3, "0 ^1", 1);
        bad(3, "0 or^", 1);
        bad(3, "0 or ^and", 1);
        bad(3, "^or 0", 1);
        bad(3, "^)", 1);
        bad(3, "(0^", 1);
        bad(3, "(0)^)", 1);
        bad(3, "(^)", 1);
        bad(3, "0^;", 1);
        bad(3, "^not 0", 1);
        bad(3, "(0 or 1) and ^7", 2);
        StringBuilder many = new StringBuilder("0");
        for (int i = 1; i < 133; i++) {
            many.append("or").append(i % 3);
        }
        good(x, 3, many.append(" ").toString(), 133);
        C.due("many", true, x.does(4));
        C.due("none of many", false, x.does(0));
        for (int i = 0; i < 4; i++) {
            // told often, a text begins anew each time
            good(x, 3, many.toString(), 133);
            C.due("many", true, x.does(2));
            C.due("none of many", false, x.does(0));
        }
        good(x, 3, "2", 1);
        C.due("0 no more", false, x.does(3));
        good(x, 3, "most 1", 1);
        x = realm();
        for (int i = 0; i < 20; i++) {
            good(x, 0, "wear 1" + "+1".repeat(i) + "+used-used".repeat(20) + ";", 1);
            C.due("a long sum", i + 1, x.after(0, 7, false));
        }
    }
}
