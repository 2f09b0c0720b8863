import java.util.Random;

/** What a SpareDay answers, reckoned again from its other answers in the dullest way, for many realms. */
public final class OraclesTest {
    private static final Check C = new Check();

    public static void main(String[] args) {
        for (int seed = 0; seed < 150; seed++) {
            Random random = new Random(seed);
            // one object lives for 512 calls, and every oracle asks many: so each has its own, all alike
            councils(realm(new Random(seed)), seed);
            shapes(realm(new Random(seed)), seed);
            plans(new Random(seed), seed, random);
            fitting(new Random(seed), seed, random);
            turns(realm(new Random(seed)), seed, random);
            voices(seed);
            thoughts(seed);
            undoing(seed, random);
        }
        C.finish();
    }

    private static SpareDay realm(Random random) {
        SpareDay x = new SpareDay();
        int people = 1 + random.nextInt(6);
        for (int p = 0; p < people; p++) {
            x.person(random.nextInt(100), random.nextInt(4));
            x.set(4, p, random.nextInt(8));
        }
        for (int i = 0; i < 8; i++) {
            x.tie(random.nextInt(people), random.nextInt(people), true);
        }
        Check.tell(x, 0, law(random));
        Check.tell(x, 1, named(random, people, -1, 0));
        Check.tell(x, 2, works(random, people));
        Check.tell(x, 3, council(random, people, 0));
        x.set(1, 0, random.nextInt(25));
        x.set(2, 0, 1 + random.nextInt(24));
        x.traces(random.nextInt(4), random.nextInt(4));
        return x;
    }

    private static String law(Random random) {
        String[] laws = {"", "wear 0;", "weight age / 30; wear used / 4;", "weight 3 - had; notice used * 50; wear 2 when ties > 1;",
            "weight since * 2 + need when not person = 1; wear 30 - used;", "weight 1 + person when year / 2 * 2 = year; wear worn / 3;"};
        return laws[random.nextInt(laws.length)];
    }

    /** Voices in which one (if not below 0) names another, or (other below 0) nobody. */
    private static String named(Random random, int people, int one, int other) {
        StringBuilder s = new StringBuilder();
        for (int p = 0; p < people; p++) {
            int q = random.nextInt(Math.min(people, 3));
            boolean names = random.nextInt(5) > 0 && q != p;
            if (p == one) {
                q = other;
                names = other >= 0;
            }
            if (names) {
                s.append(p).append(" names ").append(q).append(';');
            }
        }
        return s.toString();
    }

    private static String works(Random random, int people) {
        int[] owner = new int[12];
        StringBuilder s = new StringBuilder();
        int count = random.nextInt(11);
        for (int i = 0; i < count; i++) {
            owner[i] = random.nextInt(Math.min(2, people));
            s.append("work").append(owner[i]).append("for").append(1 + random.nextInt(9)).append("worth").append(random.nextInt(5))
                    .append("dust").append(random.nextInt(3)).append("wax").append(random.nextInt(3));
            int behind = i == 0 ? 0 : random.nextInt(i);
            if (i > 0 && owner[behind] == owner[i] && random.nextInt(2) == 0) {
                s.append("after").append(behind);
            }
            s.append(';');
        }
        return s.toString();
    }

    private static String council(Random random, int people, int depth) {
        switch (random.nextInt(depth == 0 ? 6 : 5)) {
            case 0:
                return "most " + (1 + random.nextInt(people));
            case 1:
                return "" + random.nextInt(people);
            case 2:
            case 3:
                return depth > 3 ? "0" : council(random, people, depth + 1) + (random.nextBoolean() ? " or " : " and ") + council(random, people, depth + 1);
            case 4:
                return depth > 3 ? "most 1" : "(" + council(random, people, depth + 1) + ")";
            default:
                return "";
        }
    }

    private static void councils(SpareDay x, int seed) {
        int people = x.look(0);
        boolean[] does = new boolean[1 << people];
        int sets = 0;
        int bare = 0;
        int inAll = does.length - 1;
        for (int set = 0; set < does.length; set++) {
            does[set] = x.does(set);
            boolean needsAll = does[set];
            for (int p = 0; p < people; p++) {
                if ((set >> p & 1) == 1 && does[set & ~(1 << p)]) {
                    needsAll = false;
                }
            }
            sets += does[set] ? 1 : 0;
            bare += needsAll ? 1 : 0;
            inAll &= does[set] ? set : -1;
        }
        C.due(seed + " doers", sets, x.doers(0));
        C.due(seed + " bare doers", bare, x.doers(1));
        C.due(seed + " veto", inAll, x.doers(2));
        for (int p = 0; p < people; p++) {
            int hinge = 0;
            int fewest = -1;
            for (int set = does.length - 1; set >= 0; set--) {
                if ((set >> p & 1) == 0) {
                    hinge += !does[set] && does[set | 1 << p] ? 1 : 0;
                    if (does[set] && (fewest < 0 || Integer.bitCount(set) <= Integer.bitCount(fewest))) {
                        fewest = set;
                    }
                }
            }
            C.due(seed + " hinge", hinge, x.hinge(p));
            C.due(seed + " fewest", fewest < 0 ? -1 : Integer.bitCount(fewest), x.fewest(p, 0));
            C.due(seed + " fewest set", fewest, x.fewest(p, 1));
        }
    }

    private static void shapes(SpareDay x, int seed) {
        int people = x.look(0);
        int[][] way = new int[people][people];
        for (int a = 0; a < people; a++) {
            for (int b = 0; b < people; b++) {
                way[a][b] = a == b ? 0 : (x.of(a, 6) >> b & 1) == 1 ? 1 : 99;
            }
        }
        int best = 0;
        for (int set = 0; set < 1 << people; set++) {
            boolean all = true;
            for (int a = 0; a < people; a++) {
                for (int b = 0; b < people; b++) {
                    all &= (set >> a & 1) == 0 || (set >> b & 1) == 0 || way[a][b] < 2;
                }
            }
            best = all && Integer.bitCount(set) > Integer.bitCount(best) ? set : best;
        }
        C.due(seed + " clique", best, x.clique(1));
        C.due(seed + " clique's size", Integer.bitCount(best), x.clique(0));
        for (int by = 0; by < people; by++) {
            for (int a = 0; a < people; a++) {
                for (int b = 0; b < people; b++) {
                    way[a][b] = Math.min(way[a][b], way[a][by] + way[by][b]);
                }
            }
        }
        for (int a = 0; a < people; a++) {
            for (int b = 0; b < people; b++) {
                C.due(seed + " way", way[a][b] > 90 ? -1 : way[a][b], x.way(a, b));
            }
        }
    }

    private static int[][] worksOf(SpareDay x) {
        int[][] works = new int[x.look(11)][7];
        for (int i = 0; i < works.length; i++) {
            for (int what = 0; what < 7; what++) {
                works[i][what] = x.work(i, what);
            }
        }
        return works;
    }

    private static int sum(int[][] works, int set, int what) {
        int sum = 0;
        for (int i = 0; i < works.length; i++) {
            sum += (set >> i & 1) * works[i][what];
        }
        return sum;
    }

    private static boolean canBe(int[][] works, int set, int person) {
        for (int i = 0; i < works.length; i++) {
            int behind = works[i][5];
            if ((set >> i & 1) == 1 && (works[i][0] != person
                    || behind >= 0 && (set >> behind & 1) == 0 && works[behind][6] == 0)) {
                return false;
            }
        }
        return true;
    }

    private static void plans(Random alike, int seed, Random random) {
        SpareDay x = realm(alike);
        x.years(1 + random.nextInt(2));
        int[][] works = worksOf(x);
        for (int i = 0; i < 8; i++) {
            int person = random.nextInt(x.look(0));
            int h = random.nextInt(25);
            int best = 0;
            for (int set = 1; set < 1 << works.length; set++) {
                int hours = sum(works, set, 1);
                boolean fresh = true;
                for (int w = 0; w < works.length; w++) {
                    fresh &= (set >> w & 1) == 0 || works[w][6] == 0;
                }
                int more = sum(works, set, 2) - sum(works, best, 2);
                int longer = hours - sum(works, best, 1);
                if (fresh && hours <= h && canBe(works, set, person) && (more > 0 || more == 0 && longer < 0)) {
                    best = set;
                }
            }
            C.due(seed + " plan", best, x.plan(person, h, 2));
            C.due(seed + " plan's worth", sum(works, best, 2), x.plan(person, h, 0));
            C.due(seed + " plan's hours", sum(works, best, 1), x.plan(person, h, 1));
        }
    }

    private static void fitting(Random alike, int seed, Random random) {
        SpareDay x = realm(alike);
        x.years(random.nextInt(3));
        int[][] works = worksOf(x);
        int dust = x.look(16);
        int wax = x.look(17);
        int thieves = 0;
        for (int person = 0; person < x.look(0); person++) {
            int sets = 0;
            int least = -1;
            int[] with = new int[works.length];
            for (int set = 0; set < 1 << works.length; set++) {
                if (canBe(works, set, person) && sum(works, set, 1) <= 24
                        && sum(works, set, 3) == dust && sum(works, set, 4) == wax) {
                    least = sets == 0 ? set : least;
                    sets++;
                    for (int i = 0; i < with.length; i++) {
                        with[i] += set >> i & 1;
                    }
                }
            }
            int best = -1;
            for (int i = with.length - 1; i >= 0; i--) {
                int greater = Math.max(with[i], sets - with[i]);
                if (sets > 1 && (best < 0 || greater <= Math.max(with[best], sets - with[best]))) {
                    best = i;
                }
            }
            thieves |= sets > 0 ? 1 << person : 0;
            C.due(seed + " fits", sets, x.fits(person, 0));
            C.due(seed + " least fit", least, x.fits(person, 1));
            C.due(seed + " look at", best, x.lookAt(person));
        }
        C.due(seed + " thieves", thieves, x.thieves());
    }

    private static void turns(SpareDay x, int seed, Random random) {
        x.years(random.nextInt(3));
        int people = Math.min(5, x.look(0));
        int n = 1 + random.nextInt(4);
        int[] by = new int[x.look(0)];
        for (int p = 0; p < by.length; p++) {
            if (p >= people) {
                x.set(4, p, 0);
            }
            by[p] = x.of(p, 2) - x.look(1);
        }
        int[] way = new int[n];
        int[] best = new int[n];
        int most = best(by, way, best, 0, 0, -1);
        C.due(seed + " turns", most, x.turnsOf(n, 0));
        for (int i = 0; i < n; i++) {
            C.due(seed + " turn " + i + " of " + n, best[i] == by.length ? -1 : best[i], x.turnsOf(n, 10 + i));
        }
    }

    /** Every way in its order, nobody (the number behind the last) last: the first of the best is kept. */
    private static int best(int[] by, int[] way, int[] best, int i, int used, int most) {
        if (i == way.length) {
            int count = Integer.bitCount(used);
            if (count > most) {
                System.arraycopy(way, 0, best, 0, way.length);
            }
            return Math.max(count, most);
        }
        int found = most;
        for (int p = 0; p <= by.length; p++) {
            if (p == by.length || by[p] >= i && (used >> p & 1) == 0) {
                way[i] = p;
                found = best(by, way, best, i + 1, p == by.length ? used : used | 1 << p, found);
            }
        }
        return found;
    }

    /** CAN is what is GIVEN when the voices are told with another of his. */
    private static void voices(int seed) {
        SpareDay x = realm(new Random(seed));
        int people = x.look(0);
        for (int v = 0; v < people; v++) {
            int all = 0;
            for (int other = -1; other < people; other++) {
                if (other != v) {
                    SpareDay y = realm(new Random(seed));
                    StringBuilder s = new StringBuilder();
                    for (int p = 0; p < people; p++) {
                        int whom = p == v ? other : x.of(p, 5);
                        if (whom >= 0) {
                            s.append(p).append(" names ").append(whom).append(';');
                        }
                    }
                    Check.tell(y, 1, s.toString());
                    all |= y.look(15) < 0 ? 0 : 1 << y.look(15);
                    y.set(0, 0, 0);
                    C.due(seed + " a year given", y.look(15), y.given(1, 0));
                }
            }
            C.due(seed + " can", all, x.can(v));
        }
    }

    /** What is thought comes to be when the YEARS go by. */
    private static void thoughts(int seed) {
        SpareDay thinking = realm(new Random(seed));
        SpareDay x = realm(new Random(seed));
        int people = x.look(0);
        int[] soonest = new int[people];
        java.util.Arrays.fill(soonest, -1);
        int rested = 0;
        for (int n = 1; n <= 40; n++) {
            int line = x.look(7);
            if (line >= 130) {
                break;
            }
            x.years(1);
            int whom = x.book(line, 2);
            rested += x.book(line, 1) == 1 ? 1 : 0;
            if (whom >= 0 && soonest[whom] < 0) {
                soonest[whom] = n - 1;
            }
            C.due(seed + " given in " + n, whom, thinking.given(n, 0));
            C.due(seed + " rested in " + n, rested, thinking.given(n, 1));
            C.due(seed + " worth in " + n, x.look(6), thinking.given(n, 2));
        }
        for (int p = 0; p < people; p++) {
            C.due(seed + " soonest", soonest[p], thinking.soonest(p));
        }
        C.due(seed + " nothing stays", 0, thinking.look(1));
        C.due(seed + " no draws", 0, thinking.look(8));
    }

    private static void undoing(int seed, Random random) {
        SpareDay x = realm(new Random(seed));
        x.set(0, 0, 3);
        int[][] pasts = new int[9][];
        int deeds = 1 + random.nextInt(8);
        int done = 0;
        for (int i = 0; i < deeds; i++) {
            pasts[done] = state(x);
            switch (random.nextInt(4)) {
                case 0:
                    x.sit(1 + random.nextInt(4));
                    done++;
                    break;
                case 1:
                    done += x.tie(0, random.nextInt(x.look(0)), random.nextBoolean()) ? 1 : 0;
                    break;
                default:
                    x.years(1);
                    done++;
                    break;
            }
        }
        for (int i = done - 1; i >= Math.max(0, done - 6); i--) {
            C.due(seed + " can be undone", Math.min(6, done) - (done - 1 - i), x.look(14));
            C.due(seed + " undo", true, x.undo());
            int[] now = state(x);
            for (int k = 0; k < now.length; k++) {
                C.due(seed + " undone " + i + " " + k, pasts[i][k], now[k]);
            }
        }
        C.due(seed + " no more", false, x.undo());
    }

    private static int[] state(SpareDay x) {
        int[] all = {x.look(1), x.look(2), x.look(5), x.look(6), x.look(7), x.look(8), x.work(0, 6), x.work(3, 6),
            x.of(0, 0), x.of(0, 3), x.of(0, 4), x.of(0, 6), x.of(1, 0), x.of(1, 3), x.of(1, 4), x.of(1, 6),
            x.of(2, 3), x.of(2, 6), x.book(x.look(7) - 1, 1), x.book(x.look(7), 1), x.book(0, 2)};
        return all;
    }
}
