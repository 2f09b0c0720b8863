import java.util.Random;

/** Runs of calls by chance, each asked of a SpareDay and of a Model: every answer is the same. */
public final class ModelTest {
    private static final Check C = new Check();
    /** An object is used for 512 calls: a turn more, with a text in it, still fits in. */
    private static final int CALLS = 512 - 45;
    private static final int RUNS = 500;

    private final Random random;
    private final RandomTexts texts;
    private final SpareDay x = new SpareDay();
    private final Model m = new Model();
    private final int seed;
    private final boolean wild;
    private int calls = 0;
    private boolean differs = false;

    private ModelTest(int seed) {
        this.seed = seed;
        random = new Random(seed);
        texts = new RandomTexts(random);
        wild = seed % 5 == 0;
    }

    public static void main(String[] args) {
        int from = args.length > 0 ? Integer.parseInt(args[0]) : 0;
        int runs = args.length > 1 ? Integer.parseInt(args[1]) : RUNS;
        for (int seed = from; seed < from + runs; seed++) {
            new ModelTest(seed).run();
        }
        C.finish();
    }

    private boolean goesOn() {
        return calls < CALLS && !differs;
    }

    private void same(String call, long model, long got) {
        calls++;
        if (model != got) {
            differs = true;
        }
        C.due("run " + seed + " call " + calls + " " + call, model, got);
    }

    private static int bit(boolean is) {
        return is ? 1 : 0;
    }

    private void run() {
        int people = random.nextInt(8) == 0 ? 10 : 1 + random.nextInt(6);
        for (int i = 0; i < people; i++) {
            same("person", m.person(20 + i % 3, i % 4), x.person(20 + i % 3, i % 4));
        }
        for (int k = 0; k < 4; k++) {
            tell(k);
        }
        while (goesOn()) {
            if (wild) {
                anyCall();
            } else {
                turn();
            }
        }
    }

    private void tell(int k) {
        String text = texts.text(k, m.look(0));
        same("end", bit(m.end(0)), bit(x.end(0)));
        for (int i = 0; i < text.length(); i += 20) {
            int[] n = new int[5];
            for (int c = 0; c < 20; c++) {
                n[c / 4] = n[c / 4] << 8 | (i + c < text.length() ? text.charAt(i + c) : random.nextInt(256));
            }
            same("feed", m.feed(n), x.feed(n[0], n[1], n[2], n[3], n[4]));
        }
        int length = text.length();
        same("end " + length, bit(m.end(length)), bit(x.end(length)));
        same("text " + k + " of " + text, m.text(k), x.text(k));
        same("fault 0 of " + text, m.fault(0), x.fault(0));
        same("fault 1 of " + text, m.fault(1), x.fault(1));
    }

    /** Something is done, then something of each kind is asked, with arguments that mostly can be. */
    private void turn() {
        change();
        int people = m.look(0);
        for (int n = 1 + random.nextInt(8); n > 0 && goesOn(); n--) {
            ask(random.nextInt(27), random.nextInt(people + 1), random.nextInt(people + 1));
        }
    }

    private void change() {
        int a = random.nextInt(Math.max(1, m.look(0)));
        int b = random.nextInt(Math.max(1, m.look(0)));
        int v = random.nextInt(25);
        switch (random.nextInt(20)) {
            case 0:
            case 1:
            case 2:
            case 3:
                int n = random.nextInt(4) == 0 ? 1 + random.nextInt(9) : 1;
                same("years " + n, m.years(n), x.years(n));
                break;
            case 4:
            case 5:
                same("sit " + v / 6, m.sit(v / 6), x.sit(v / 6));
                break;
            case 6:
            case 7:
            case 8:
                boolean is = random.nextInt(3) > 0;
                same("tie " + a + " " + b + " " + is, bit(m.tie(a, b, is)), bit(x.tie(a, b, is)));
                break;
            case 9:
            case 10:
            case 11:
                same("undo", bit(m.undo()), bit(x.undo()));
                break;
            case 12:
                boolean taken = random.nextBoolean();
                same("image " + taken, bit(m.image(taken)), bit(x.image(taken)));
                break;
            case 13:
                int state = random.nextInt();
                same("state " + state, m.state(state), x.state(state));
                break;
            case 14:
                same("traces", bit(m.traces(v / 3, b)), bit(x.traces(v / 3, b)));
                break;
            case 15:
                int what = random.nextInt(6);
                int told = what == 4 ? m.look(1) + random.nextInt(12) : what == 2 ? 12 + v / 2 : v;
                same("set " + what + " " + a + " " + told, bit(m.set(what, a, told)), bit(x.set(what, a, told)));
                break;
            case 16:
                int whom = random.nextInt(8) == 0 ? -1 : a;
                same("bid " + whom + " " + v, m.bid(whom, v), x.bid(whom, v));
                break;
            case 17:
                same("person", m.person(v * 4, b), x.person(v * 4, b));
                break;
            default:
                if (random.nextInt(3) == 0) {
                    tell(random.nextInt(4));
                } else {
                    same("years 1", m.years(1), x.years(1));
                }
                break;
        }
    }

    private void ask(int which, int a, int b) {
        int what = random.nextInt(10);
        int v = random.nextInt(25);
        boolean is = random.nextBoolean();
        switch (which) {
            case 0: same("of " + a + " " + what, m.of(a, what), x.of(a, what)); break;
            case 1: same("after " + a + " " + v + is, m.after(a, v, is), x.after(a, v, is)); break;
            case 2: same("work " + v / 2 + " " + what, m.work(v / 2, what), x.work(v / 2, what)); break;
            case 3:
                int line = Math.max(0, m.look(7) - random.nextInt(9));
                same("book " + line + " " + what / 2, m.book(line, what / 2), x.book(line, what / 2));
                break;
            case 4: same("does " + v * v, bit(m.does(v * v)), bit(x.does(v * v))); break;
            case 5: same("plan " + a + " " + v, m.plan(a, v, what % 4), x.plan(a, v, what % 4)); break;
            case 6: same("given " + v + " " + what % 4, m.given(v, what % 4), x.given(v, what % 4)); break;
            case 7: same("can " + a, m.can(a), x.can(a)); break;
            case 8: same("fewest " + a + what % 3, m.fewest(a, what % 3), x.fewest(a, what % 3)); break;
            case 9: same("hinge " + a, m.hinge(a), x.hinge(a)); break;
            case 10:
                int turn = random.nextInt(3) == 0 ? 0 : 10 + v / 3;
                same("turnsOf " + what + " " + turn, m.turnsOf(what, turn), x.turnsOf(what, turn));
                break;
            case 11: same("fits " + a + what % 3, m.fits(a, what % 3), x.fits(a, what % 3)); break;
            case 12: same("lookAt " + a, m.lookAt(a), x.lookAt(a)); break;
            case 13: same("share " + v + " " + 2 * what, m.share(v, 2 * what, a % 2), x.share(v, 2 * what, a % 2)); break;
            case 14: same("sold " + a, m.sold(a % 3), x.sold(a % 3)); break;
            case 15: same("rests " + v, m.rests(v), x.rests(v)); break;
            case 16:
                int day = random.nextInt(366);
                int from = day - 1 + random.nextInt(3);
                same("weekday " + day + " " + from, m.weekday(day, 50 * v, bit(is), from), x.weekday(day, 50 * v, bit(is), from));
                break;
            case 17: same("next", m.next(), x.next()); break;
            case 18: same("due " + what % 3, m.due(what % 3), x.due(what % 3)); break;
            case 19: same("doers " + what % 4, m.doers(what % 4), x.doers(what % 4)); break;
            case 20: same("thieves", m.thieves(), x.thieves()); break;
            case 21: same("soonest " + a, m.soonest(a), x.soonest(a)); break;
            case 22: same("spread " + what % 3, m.spread(what % 3), x.spread(what % 3)); break;
            case 23: same("way " + a + " " + b, m.way(a, b), x.way(a, b)); break;
            case 24: same("clique " + what % 3, m.clique(what % 3), x.clique(what % 3)); break;
            case 25: same("look 15", m.look(15), x.look(15)); break;
            default: same("look " + v, m.look(v), x.look(v)); break;
        }
    }

    private int number() {
        switch (random.nextInt(14)) {
            case 0:
                return random.nextInt();
            case 1:
                return random.nextBoolean() ? Integer.MIN_VALUE : Integer.MAX_VALUE;
            case 2:
                return -1 - random.nextInt(3);
            case 3:
                return random.nextInt(1100);
            case 4:
                int[] edges = {9, 10, 11, 12, 24, 25, 39, 40, 41, 48, 49, 99, 100, 149, 150, 200, 201, 364, 365, 399, 400, 999, 1000, 9999, 10000};
                return edges[random.nextInt(edges.length)];
            case 5:
                return random.nextInt(48);
            default:
                return random.nextInt(11);
        }
    }

    /** Any call with any arguments. */
    private void anyCall() {
        int a = number();
        int b = number();
        int c = number();
        int d = number();
        boolean is = random.nextBoolean();
        switch (random.nextInt(48)) {
            case 0: same("state " + a, m.state(a), x.state(a)); break;
            case 1: same("person " + a + " " + b, m.person(a, b), x.person(a, b)); break;
            case 2: same("set " + a + " " + b + " " + c, bit(m.set(a, b, c)), bit(x.set(a, b, c))); break;
            case 3: same("tie " + a + " " + b, bit(m.tie(a, b, is)), bit(x.tie(a, b, is))); break;
            case 4: same("sit " + a, m.sit(a), x.sit(a)); break;
            case 5: same("years " + a, m.years(a), x.years(a)); break;
            case 6: same("feed", m.feed(a, b, c, d, a), x.feed(a, b, c, d, a)); break;
            case 7: same("end " + a, bit(m.end(a)), bit(x.end(a))); break;
            case 8: same("text " + a, m.text(a), x.text(a)); break;
            case 9: same("fault " + a, m.fault(a), x.fault(a)); break;
            case 10: same("of " + a + " " + b, m.of(a, b), x.of(a, b)); break;
            case 11: same("after " + a + " " + b + is, m.after(a, b, is), x.after(a, b, is)); break;
            case 12: same("work " + a + " " + b, m.work(a, b), x.work(a, b)); break;
            case 13: same("book " + a + " " + b, m.book(a, b), x.book(a, b)); break;
            case 14: same("does " + a, bit(m.does(a)), bit(x.does(a))); break;
            case 15: same("plan " + a + " " + b + " " + c, m.plan(a, b, c), x.plan(a, b, c)); break;
            case 16: same("given " + a + " " + b, m.given(a, b), x.given(a, b)); break;
            case 17: same("can " + a, m.can(a), x.can(a)); break;
            case 18: same("fewest " + a + " " + b, m.fewest(a, b), x.fewest(a, b)); break;
            case 19: same("hinge " + a, m.hinge(a), x.hinge(a)); break;
            case 20: same("turnsOf " + a + " " + b, m.turnsOf(a, b), x.turnsOf(a, b)); break;
            case 21: same("traces " + a + " " + b, bit(m.traces(a, b)), bit(x.traces(a, b))); break;
            case 22: same("fits " + a + " " + b, m.fits(a, b), x.fits(a, b)); break;
            case 23: same("lookAt " + a, m.lookAt(a), x.lookAt(a)); break;
            case 24: same("share " + a + " " + b + " " + c, m.share(a, b, c), x.share(a, b, c)); break;
            case 25: same("bid " + a + " " + b, m.bid(a, b), x.bid(a, b)); break;
            case 26: same("sold " + a, m.sold(a), x.sold(a)); break;
            case 27: same("rests " + a, m.rests(a), x.rests(a)); break;
            case 28: same("weekday " + a + " " + b + " " + c + " " + d, m.weekday(a, b, c, d), x.weekday(a, b, c, d)); break;
            case 29: same("next", m.next(), x.next()); break;
            case 30: same("due " + a, m.due(a), x.due(a)); break;
            case 31: same("doers " + a, m.doers(a), x.doers(a)); break;
            case 32: same("thieves", m.thieves(), x.thieves()); break;
            case 33: same("soonest " + a, m.soonest(a), x.soonest(a)); break;
            case 34: same("spread " + a, m.spread(a), x.spread(a)); break;
            case 35: same("way " + a + " " + b, m.way(a, b), x.way(a, b)); break;
            case 36: same("clique " + a, m.clique(a), x.clique(a)); break;
            case 37: same("undo", bit(m.undo()), bit(x.undo())); break;
            case 38: same("image " + is, bit(m.image(is)), bit(x.image(is))); break;
            case 39: same("look " + a, m.look(a), x.look(a)); break;
            case 40: tell(random.nextInt(4)); break;
            default: change(); break;
        }
    }
}
