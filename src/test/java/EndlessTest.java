import java.lang.management.ManagementFactory;
import java.util.Random;

/** Any arguments in any state: no call throws, the same calls answer the same, and a run stays in its room. */
public final class EndlessTest {
    private static final Check C = new Check();
    private static final int CALLS = 512;
    /** The end that empties the TAPE, what is fed, the end behind it, and the text itself. */
    private static final int CALLS_OF_A_TEXT = 23;
    private static final String[] TEXTS = {
        "weight 3 when need > 2; wear used / 5; notice 700; weight 1;", "wear 0;", "notice used * 99 - had * since when not (age < 9 or worn = 4);",
        "0 names 1; 1 names 0; 2 names 1;", "2 names 0;", "0 names 1;1 names 2;2 names 3;3 names 1;4 names 1;",
        "work0for5worth9dust1wax2;work0for5worth9dust1wax2after0;work1for24worth1dust0wax0;work1for1worth1dust1wax1after2;",
        "work1for2worth3dust0wax1;work1for2worth3dust0wax1;work1for2worth3dust0wax1;work1for2worth3dust0wax1;"
            + "work1for2worth3dust0wax1;work1for2worth3dust0wax1;work1for2worth3dust0wax1;work1for2worth3dust0wax1;"
            + "work1for2worth3dust0wax1;work1for2worth3dust0wax1;work1for2worth3dust0wax1;work1for2worth3dust0wax1;",
        "most 2 or 0 and (1 or most 1)", "((((((((0))))))))", "(((((((((0)))))))))", "0 or 1 and", "", "wear 1 when ((((((((((((((((((((((((((("};

    public static void main(String[] args) {
        for (int seed = 0; seed < 400; seed++) {
            C.due("run " + seed + " again", answers(seed), answers(seed));
        }
        madeBytes();
        dearest();
        C.finish();
    }

    private static long answers(int seed) {
        Random random = new Random(seed);
        SpareDay x = new SpareDay();
        int people = random.nextInt(11);
        for (int i = 0; i < people; i++) {
            x.person(random.nextInt(100), random.nextInt(25));
        }
        long all = 0;
        int left = CALLS - people;
        while (left >= CALLS_OF_A_TEXT) {
            boolean tells = random.nextInt(14) == 0;
            all = all * 31 + (tells ? told(x, random) : call(x, random));
            left -= tells ? CALLS_OF_A_TEXT : 1;
        }
        return all;
    }

    private static int number(Random random) {
        switch (random.nextInt(12)) {
            case 0:
                return random.nextInt();
            case 1:
                return random.nextBoolean() ? Integer.MIN_VALUE : Integer.MAX_VALUE;
            case 2:
                return -1 - random.nextInt(3);
            case 3:
                return random.nextInt(1100);
            case 4:
                return random.nextInt(48);
            default:
                return random.nextInt(12);
        }
    }

    private static int told(SpareDay x, Random random) {
        StringBuilder s = new StringBuilder(TEXTS[random.nextInt(TEXTS.length)]);
        for (int n = random.nextInt(4); n > 1; n--) {
            s.insert(random.nextInt(s.length() + 1), (char) (random.nextInt(4) == 0 ? random.nextInt(256) : "();19 o".charAt(random.nextInt(7))));
        }
        return Check.tell(x, random.nextInt(20) == 0 ? number(random) : random.nextInt(4), s.toString());
    }

    private static int call(SpareDay x, Random random) {
        int a = number(random);
        int b = number(random);
        int c = number(random);
        boolean is = random.nextBoolean();
        switch (random.nextInt(40)) {
            case 0: return x.state(a);
            case 1: return x.person(a, b);
            case 2: return bit(x.set(a, b, c));
            case 3: return bit(x.tie(a, b, is));
            case 4: return x.sit(a);
            case 5: return x.years(a);
            case 6: return x.feed(a, b, c, random.nextInt(), random.nextInt());
            case 7: return bit(x.end(a));
            case 8: return x.text(a);
            case 9: return x.fault(a);
            case 10: return x.of(a, b);
            case 11: return x.after(a, b, is);
            case 12: return x.work(a, b);
            case 13: return x.book(a, b);
            case 14: return bit(x.does(a));
            case 15: return x.plan(a, b, c);
            case 16: return x.given(a, b);
            case 17: return x.can(a);
            case 18: return x.fewest(a, b);
            case 19: return x.hinge(a);
            case 20: return x.turnsOf(a, b);
            case 21: return bit(x.traces(a, b));
            case 22: return x.fits(a, b);
            case 23: return x.lookAt(a);
            case 24: return x.share(a, b, c);
            case 25: return x.bid(a, b);
            case 26: return x.sold(a);
            case 27: return x.rests(a);
            case 28: return x.weekday(a, b, c, random.nextInt(400));
            case 29: return x.next();
            case 30: return x.due(a);
            case 31: return x.doers(a);
            case 32: return x.thieves();
            case 33: return x.soonest(a);
            case 34: return x.spread(a);
            case 35: return x.way(a, b);
            case 36: return x.clique(a);
            case 37: return bit(x.undo());
            case 38: return bit(x.image(is));
            default: return x.look(a);
        }
    }

    private static int bit(boolean is) {
        return is ? 1 : 0;
    }

    private static SpareDay crowded() {
        SpareDay x = Check.people(10);
        Check.tell(x, 0, "weight 1 when not ((used * age * need * had * since * worn < 0 or 1 = 2) and 1 = 1); wear 0;");
        Check.tell(x, 1, "0 names 1; 2 names 1; 3 names 1; 4 names 1; 5 names 1; 6 names 1; 7 names 1; 8 names 1; 9 names 1;");
        Check.tell(x, 2, TEXTS[7].replace("for2", "for9"));
        Check.tell(x, 3, "most 9 or 0 and 1 or 2 and 3 or 4 and 5 or 6 and 7 or 8 and 9");
        x.set(2, 0, 24);
        x.set(0, 0, 20);
        return x;
    }

    private static int everyThought(SpareDay x) {
        int all = 0;
        for (int p = 0; p < 10; p++) {
            all += x.soonest(p) + x.can(p) + x.hinge(p) + x.fewest(p, 1) + x.fits(p, 0) + x.lookAt(p) + x.plan(p, 24, 2) + x.way(0, p);
        }
        return all + x.given(40, 2) + x.doers(1) + x.thieves() + x.clique(1) + x.turnsOf(10, 19) + x.years(1) + (x.undo() ? 1 : 0)
                + (x.image(true) ? 1 : 0) + (x.image(false) ? 1 : 0) + x.text(0) + x.text(3) + x.look(15);
    }

    /** All calls of a run live in one room of 7.3 million fields and elements: were each an int, so many bytes. */
    private static void madeBytes() {
        com.sun.management.ThreadMXBean threads = (com.sun.management.ThreadMXBean) ManagementFactory.getThreadMXBean();
        everyThought(crowded());
        long id = Thread.currentThread().getId();
        long before = threads.getThreadAllocatedBytes(id);
        SpareDay x = crowded();
        for (int i = 0; i < 4; i++) {
            everyThought(x);
        }
        long made = threads.getThreadAllocatedBytes(id) - before;
        C.due("bytes made by a run: " + made, true, made < 29200000);
    }

    private static void dearest() {
        long begun = System.nanoTime();
        SpareDay x = crowded();
        for (int i = 0; i < 400; i++) {
            x.soonest(9);
        }
        long millis = (System.nanoTime() - begun) / 1000000;
        C.due("the dearest calls took " + millis + " ms", true, millis < 60000);
    }
}
