import java.util.ArrayDeque;
import java.util.ArrayList;
import java.util.HashMap;
import java.util.List;
import java.util.Map;

/** DOC.md once more, in the dullest way and with all of Java's library: ModelTest asks it what it asks a SpareDay. */
final class Model {
    private static final int NONE = -1;
    private static final int NO_SUCH = NONE - 1;

    private static final class Person {
        int age;
        int need;
        int by = 999;
        int had;
        int since;
        int names = NONE;

        Person copy() {
            Person p = new Person();
            p.age = age;
            p.need = need;
            p.by = by;
            p.had = had;
            p.since = since;
            p.names = names;
            return p;
        }
    }

    private static final class World {
        int draws;
        int wear;
        int rest = 2;
        int limit = 12;
        int year;
        int noticed;
        int worth;
        int dust;
        int wax;
        List<Person> people = new ArrayList<>();
        boolean[][] tied = new boolean[10][10];
        List<ModelTexts.Line> law = new ArrayList<>();
        List<ModelTexts.Work> works = new ArrayList<>();
        boolean[] done = new boolean[12];
        ModelTexts.Rule council = new ModelTexts.Rule(set -> true, 0);
        List<int[]> book = new ArrayList<>();
        List<int[]> bids = new ArrayList<>();

        World copy() {
            World w = new World();
            w.draws = draws;
            w.wear = wear;
            w.rest = rest;
            w.limit = limit;
            w.year = year;
            w.noticed = noticed;
            w.worth = worth;
            w.dust = dust;
            w.wax = wax;
            for (int i = 0; i < people.size(); i++) {
                w.people.add(people.get(i).copy());
            }
            for (int i = 0; i < 10; i++) {
                w.tied[i] = tied[i].clone();
            }
            w.law = law;
            w.works = works;
            w.done = done.clone();
            w.council = council;
            w.book = new ArrayList<>(book);
            w.bids = new ArrayList<>(bids);
            return w;
        }
    }

    private World world = new World();
    private World image;
    private final ArrayDeque<World> pasts = new ArrayDeque<>();
    private final StringBuilder tape = new StringBuilder();
    private int fault = 0;
    private int place = NONE;

    private static boolean in(int v, int least, int greatest) {
        return v >= least && v <= greatest;
    }

    private static boolean has(int set, int i) {
        return (set & 1 << i) != 0;
    }

    private int size() {
        return world.people.size();
    }

    private boolean is(int person) {
        return in(person, 0, size() - 1);
    }

    private int everyone() {
        return (1 << size()) - 1;
    }

    private void keep() {
        pasts.addLast(world.copy());
        if (pasts.size() > 6) {
            pasts.removeFirst();
        }
    }

    int state(int v) {
        int was = world.draws;
        world.draws = v;
        pasts.clear();
        return was;
    }

    int person(int age, int need) {
        if (!in(age, 0, 99) || !in(need, 0, 24) || size() == 10) {
            return NONE;
        }
        Person p = new Person();
        p.age = age;
        p.need = need;
        world.people.add(p);
        pasts.clear();
        return size() - 1;
    }

    boolean set(int what, int who, int v) {
        int[] least = {0, 0, 1, 0, 0, 0};
        int[] greatest = {24, 24, 24, 24, 999, 99};
        if (!in(what, 0, 5) || !in(v, least[what], greatest[what]) || what > 2 && !is(who)) {
            return false;
        }
        pasts.clear();
        if (what == 0) {
            world.wear = v;
        } else if (what == 1) {
            world.rest = v;
        } else if (what == 2) {
            world.limit = v;
        } else if (what == 3) {
            world.people.get(who).need = v;
        } else if (what == 4) {
            world.people.get(who).by = v;
        } else {
            world.people.get(who).age = v;
        }
        return true;
    }

    boolean tie(int a, int b, boolean is) {
        if (!is(a) || !is(b) || a == b || world.tied[a][b] == is) {
            return false;
        }
        keep();
        world.tied[a][b] = is;
        world.tied[b][a] = is;
        return true;
    }

    int sit(int n) {
        if (!in(n, 1, 24)) {
            return NONE;
        }
        keep();
        world.wear = Math.min(24, world.wear + n);
        return world.wear;
    }

    int years(int n) {
        if (!in(n, 1, 40) || world.year + n > 999) {
            return NONE;
        }
        int times = 0;
        for (int i = 0; i < n; i++) {
            keep();
            times += year(world, true) >= 0 ? 1 : 0;
        }
        return times;
    }

    /** GIVEN, or -1 kept, or -2 rested. */
    private static int year(World w, boolean real) {
        int given = NO_SUCH;
        List<int[]> lines = new ArrayList<>();
        if (w.wear >= w.limit) {
            w.wear = Math.max(0, w.wear - w.rest);
            lines.add(new int[] {w.year, 1, NONE, 0});
        } else {
            given = byVoices(w);
            if (given == NONE) {
                lines.add(new int[] {w.year, 2, NONE, 0});
            }
        }
        if (given >= 0) {
            int set = planned(w, given, 24 - w.wear);
            int used = 0;
            for (int i = 0; i < w.works.size(); i++) {
                if (has(set, i)) {
                    w.done[i] = true;
                    w.worth += w.works.get(i).worth();
                    used += w.works.get(i).hours();
                    lines.add(new int[] {w.year, 3, i, w.works.get(i).hours()});
                }
            }
            lines.add(0, new int[] {w.year, 0, given, used});
            int wear = asked(w, "wear", given, used);
            int notice = asked(w, "notice", given, used);
            w.wear = Math.min(24, w.wear + wear);
            if (real) {
                w.draws = w.draws * 1664525 + 1013904223;
                long bits = (w.draws & 0xffffffffL) / 256;
                if (bits % 1000 < notice) {
                    w.noticed++;
                    lines.add(new int[] {w.year, 4, given, 0});
                }
            }
        }
        for (int i = 0; i < w.people.size(); i++) {
            Person p = w.people.get(i);
            p.had += i == given ? 1 : 0;
            p.since = i == given ? 0 : p.since + 1;
            p.age = Math.min(99, p.age + 1);
        }
        for (int[] line : lines) {
            if (real && w.book.size() < 150) {
                w.book.add(line);
            }
        }
        w.year++;
        return given;
    }

    private static int asked(World w, String word, int person, int used) {
        Person p = w.people.get(person);
        int ties = 0;
        for (boolean tied : w.tied[person]) {
            ties += tied ? 1 : 0;
        }
        Map<String, Integer> facts = new HashMap<>();
        facts.put("person", person);
        facts.put("age", p.age);
        facts.put("need", p.need);
        facts.put("had", p.had);
        facts.put("since", p.since);
        facts.put("worn", w.wear);
        facts.put("year", w.year);
        facts.put("ties", ties);
        facts.put("used", used);
        int told = word.equals("weight") ? 1 : word.equals("wear") ? used / 8 : 100;
        for (ModelTexts.Line line : w.law) {
            if (line.word().equals(word) && (line.when() == null || line.when().of(facts::get))) {
                told = line.sum().of(facts::get);
                break;
            }
        }
        return Math.min(word.equals("notice") ? 1000 : 24, Math.max(0, told));
    }

    private static int byVoices(World w) {
        int best = NONE;
        int most = 0;
        for (int p = 0; p < w.people.size(); p++) {
            int sum = 0;
            int naming = 0;
            for (int v = 0; v < w.people.size(); v++) {
                if (w.people.get(v).names == p) {
                    sum += asked(w, "weight", v, 0);
                    naming += 1 << v;
                }
            }
            if (sum > 0 && w.council.holds().test(naming)) {
                boolean first = best == NONE || sum > most
                        || sum == most && w.people.get(p).need > w.people.get(best).need;
                best = first ? p : best;
                most = first ? sum : most;
            }
        }
        return best;
    }

    private static boolean whole(World w, int set) {
        for (int i = 0; i < w.works.size(); i++) {
            int after = w.works.get(i).after();
            if (has(set, i) && after >= 0 && !w.done[after] && !has(set, after)) {
                return false;
            }
        }
        return true;
    }

    private static List<Integer> setsOf(World w, int person, boolean doneToo) {
        List<Integer> sets = new ArrayList<>();
        sets.add(0);
        for (int i = 0; i < w.works.size(); i++) {
            if (w.works.get(i).person() == person && (doneToo || !w.done[i])) {
                int before = sets.size();
                for (int k = 0; k < before; k++) {
                    sets.add(sets.get(k) + (1 << i));
                }
            }
        }
        return sets;
    }

    /** what 0 HOURS, 1 worth, 2 dust, 3 wax, added. */
    private static int sum(World w, int set, int what) {
        int sum = 0;
        for (int i = 0; i < w.works.size(); i++) {
            if (has(set, i)) {
                ModelTexts.Work work = w.works.get(i);
                sum += what == 0 ? work.hours() : what == 1 ? work.worth() : what == 2 ? work.dust() : work.wax();
            }
        }
        return sum;
    }

    private static int planned(World w, int person, int h) {
        int best = 0;
        for (int set : setsOf(w, person, false)) {
            if (sum(w, set, 0) <= h && whole(w, set)) {
                int more = sum(w, set, 1) - sum(w, best, 1);
                int longer = sum(w, set, 0) - sum(w, best, 0);
                if (more > 0 || more == 0 && longer < 0 || more == 0 && longer == 0 && set < best) {
                    best = set;
                }
            }
        }
        return best;
    }

    int feed(int... numbers) {
        if (tape.length() + 20 > 400) {
            return NONE;
        }
        for (int n : numbers) {
            long v = n & 0xffffffffL;
            tape.append((char) (v / 16777216)).append((char) (v / 65536 % 256)).append((char) (v / 256 % 256)).append((char) (v % 256));
        }
        return tape.length();
    }

    boolean end(int n) {
        if (!in(n, 0, tape.length())) {
            return false;
        }
        tape.setLength(n);
        return true;
    }

    int text(int k) {
        ModelTexts reader = new ModelTexts(tape.toString(), size());
        tape.setLength(0);
        fault = 0;
        place = NONE;
        try {
            switch (k) {
                case 0:
                    world.law = reader.law();
                    return world.law.size();
                case 1:
                    return toldVoices(reader.voices());
                case 2:
                    world.works = reader.works();
                    world.done = new boolean[12];
                    pasts.clear();
                    return world.works.size();
                case 3:
                    world.council = reader.council();
                    return world.council.parts();
                default:
                    return NONE;
            }
        } catch (ModelTexts.Fault f) {
            fault = f.what;
            place = f.place;
            return NONE;
        }
    }

    private int toldVoices(int[] names) {
        int lines = 0;
        for (int p = 0; p < size(); p++) {
            world.people.get(p).names = names[p];
            lines += names[p] >= 0 ? 1 : 0;
        }
        pasts.clear();
        return lines;
    }

    int fault(int what) {
        return what == 0 ? fault : what == 1 ? place : NONE;
    }

    int of(int person, int what) {
        if (!is(person) || !in(what, 0, 8)) {
            return NO_SUCH;
        }
        Person p = world.people.get(person);
        int set = 0;
        int sum = 0;
        for (int i = 0; i < size(); i++) {
            set += world.tied[person][i] ? 1 << i : 0;
            sum += world.people.get(i).names == person ? asked(world, "weight", i, 0) : 0;
        }
        return new int[] {p.age, p.need, p.by, p.had, p.since, p.names, set, asked(world, "weight", person, 0), sum}[what];
    }

    int after(int person, int used, boolean notice) {
        return is(person) && in(used, 0, 24) ? asked(world, notice ? "notice" : "wear", person, used) : NONE;
    }

    int work(int i, int what) {
        if (!in(i, 0, world.works.size() - 1) || !in(what, 0, 6)) {
            return NO_SUCH;
        }
        ModelTexts.Work w = world.works.get(i);
        return new int[] {w.person(), w.hours(), w.worth(), w.dust(), w.wax(), w.after(), world.done[i] ? 1 : 0}[what];
    }

    int book(int i, int what) {
        return in(i, 0, world.book.size() - 1) && in(what, 0, 3) ? world.book.get(i)[what] : NO_SUCH;
    }

    boolean does(int people) {
        return world.council.holds().test(people & everyone());
    }

    int plan(int person, int h, int what) {
        if (!is(person) || !in(h, 0, 24) || !in(what, 0, 2)) {
            return NONE;
        }
        int set = planned(world, person, h);
        return what == 2 ? set : sum(world, set, 1 - what);
    }

    int given(int n, int what) {
        if (!in(n, 1, 40) || !in(what, 0, 2)) {
            return NO_SUCH;
        }
        World w = world.copy();
        int last = NONE;
        int rested = 0;
        for (int i = 0; i < n; i++) {
            last = year(w, false);
            rested += last == NO_SUCH ? 1 : 0;
        }
        return what == 0 ? Math.max(NONE, last) : what == 1 ? rested : w.worth - world.worth;
    }

    int can(int person) {
        if (!is(person)) {
            return NONE;
        }
        int all = 0;
        for (int other = NONE; other < size(); other++) {
            World w = world.copy();
            w.people.get(person).names = other;
            int given = other == person ? NONE : byVoices(w);
            all |= given == NONE ? 0 : 1 << given;
        }
        return all;
    }

    int fewest(int person, int what) {
        if (!is(person) || !in(what, 0, 1)) {
            return NONE;
        }
        for (int n = 0; n <= size(); n++) {
            for (int set = 0; set <= everyone(); set++) {
                if (Integer.bitCount(set) == n && !has(set, person) && does(set)) {
                    return what == 0 ? n : set;
                }
            }
        }
        return NONE;
    }

    int hinge(int person) {
        if (!is(person)) {
            return NONE;
        }
        int sets = 0;
        for (int set = 0; set <= everyone(); set++) {
            sets += !has(set, person) && !does(set) && does(set + (1 << person)) ? 1 : 0;
        }
        return sets;
    }

    int turnsOf(int n, int what) {
        if (!in(n, 1, 10) || what != 0 && !in(what, 10, 9 + n)) {
            return NO_SUCH;
        }
        int[][] most = new int[n + 1][1024];
        for (int i = n - 1; i >= 0; i--) {
            for (int used = 0; used <= everyone(); used++) {
                most[i][used] = most[i + 1][used];
                for (int p = 0; p < size(); p++) {
                    if (inTime(p, i, used)) {
                        most[i][used] = Math.max(most[i][used], 1 + most[i + 1][used | 1 << p]);
                    }
                }
            }
        }
        int used = 0;
        int whom = NONE;
        for (int i = 0; i <= what - 10; i++) {
            whom = NONE;
            for (int p = size() - 1; p >= 0; p--) {
                whom = inTime(p, i, used) && 1 + most[i + 1][used | 1 << p] == most[i][used] ? p : whom;
            }
            used |= whom == NONE ? 0 : 1 << whom;
        }
        return what == 0 ? most[0][0] : whom;
    }

    private boolean inTime(int p, int i, int used) {
        return !has(used, p) && world.year + i <= world.people.get(p).by;
    }

    boolean traces(int dust, int wax) {
        if (!in(dust, 0, 200) || !in(wax, 0, 200)) {
            return false;
        }
        world.dust = dust;
        world.wax = wax;
        pasts.clear();
        return true;
    }

    private List<Integer> fitting(int person) {
        List<Integer> fitting = new ArrayList<>();
        for (int set : setsOf(world, person, true)) {
            if (whole(world, set) && sum(world, set, 0) <= 24 && sum(world, set, 2) == world.dust && sum(world, set, 3) == world.wax) {
                fitting.add(set);
            }
        }
        return fitting;
    }

    int fits(int person, int what) {
        if (!is(person) || !in(what, 0, 1)) {
            return NONE;
        }
        List<Integer> fitting = fitting(person);
        return what == 0 ? fitting.size() : fitting.stream().min(Integer::compare).orElse(NONE);
    }

    int lookAt(int person) {
        List<Integer> fitting = is(person) ? fitting(person) : new ArrayList<>();
        if (fitting.size() < 2) {
            return NONE;
        }
        int best = NONE;
        int least = Integer.MAX_VALUE;
        for (int i = 0; i < world.works.size(); i++) {
            int work = i;
            int with = (int) fitting.stream().filter(set -> has(set, work)).count();
            int greater = Math.max(with, fitting.size() - with);
            best = greater < least ? i : best;
            least = Math.min(least, greater);
        }
        return best;
    }

    int share(int a, int b, int what) {
        if (!in(a, 0, 48) || !in(b, 0, 48) || !in(what, 0, 1)) {
            return NONE;
        }
        int hours = 24 - world.wear;
        if (a + b <= hours) {
            return what == 0 ? 2 * a : 2 * b;
        }
        int firstOfA = Math.min(a, Math.max(0, hours - b));
        int firstOfB = Math.min(b, Math.max(0, hours - a));
        int left = hours - firstOfA - firstOfB;
        return what == 0 ? 2 * firstOfA + left : 2 * firstOfB + left;
    }

    int bid(int person, int v) {
        if (person == NONE) {
            world.bids.clear();
            return 0;
        }
        if (!is(person) || !in(v, 0, 9999) || world.bids.size() == 8) {
            return NONE;
        }
        world.bids.add(new int[] {person, v});
        return world.bids.size();
    }

    int sold(int what) {
        if (world.bids.isEmpty() || !in(what, 0, 1)) {
            return NONE;
        }
        List<int[]> sorted = new ArrayList<>(world.bids);
        sorted.sort((x, y) -> y[1] - x[1]);
        return what == 0 ? sorted.get(0)[0] : sorted.size() == 1 ? 0 : sorted.get(1)[1];
    }

    int rests(int w) {
        if (!in(w, 1, 24)) {
            return NONE;
        }
        int years = 0;
        for (int wear = world.wear; wear < world.limit; wear += w) {
            years++;
        }
        return years;
    }

    int weekday(int d, int y, int k, int m) {
        if (!in(d, 0, 364) || !in(y, 0, 999) || !in(k, 0, 1) || !in(m, 0, 364)) {
            return NONE;
        }
        int days = 0;
        for (int i = 0; i < y; i++) {
            days += 365 + k;
        }
        return (days + d + (d >= m ? k : 0)) % 7;
    }

    int next() {
        int best = NONE;
        for (int i = size() - 1; i >= 0; i--) {
            Person p = world.people.get(i);
            if (p.had == 0) {
                Person b = best == NONE ? null : world.people.get(best);
                best = b == null || p.need > b.need || p.need == b.need && p.age >= b.age ? i : best;
            }
        }
        return best;
    }

    int due(int what) {
        int need = 0;
        int first = NONE;
        for (Person p : world.people) {
            if (p.had == 0) {
                need += p.need;
                if (p.by >= world.year) {
                    first = first == NONE ? p.by - world.year : Math.min(first, p.by - world.year);
                }
            }
        }
        return what == 0 ? need : what == 1 ? first : NONE;
    }

    int doers(int what) {
        int[] all = {0, 0, everyone()};
        for (int set = 0; set <= everyone(); set++) {
            if (does(set)) {
                boolean bare = true;
                for (int p = 0; p < size(); p++) {
                    bare &= !has(set, p) || !does(set - (1 << p));
                }
                all[0]++;
                all[1] += bare ? 1 : 0;
                all[2] &= set;
            }
        }
        return in(what, 0, 2) ? all[what] : NONE;
    }

    int thieves() {
        int all = 0;
        for (int p = 0; p < size(); p++) {
            all += fitting(p).isEmpty() ? 0 : 1 << p;
        }
        return all;
    }

    int soonest(int person) {
        World w = world.copy();
        for (int i = 0; i < 40 && is(person); i++) {
            if (year(w, false) == person) {
                return i;
            }
        }
        return NONE;
    }

    int spread(int what) {
        int least = Integer.MAX_VALUE;
        int most = 0;
        int latest = NONE;
        for (int i = 0; i < size(); i++) {
            Person p = world.people.get(i);
            least = Math.min(least, p.had);
            most = Math.max(most, p.had);
            latest = p.had > 0 && (latest == NONE || p.since < world.people.get(latest).since) ? i : latest;
        }
        return what == 0 ? size() == 0 ? 0 : most - least : what == 1 ? latest : NONE;
    }

    int way(int a, int b) {
        if (!is(a) || !is(b)) {
            return NONE;
        }
        int[][] way = new int[10][10];
        for (int i = 0; i < 100; i++) {
            way[i / 10][i % 10] = i / 10 == i % 10 ? 0 : world.tied[i / 10][i % 10] ? 1 : 100;
        }
        for (int k = 0; k < 10; k++) {
            for (int i = 0; i < 100; i++) {
                way[i / 10][i % 10] = Math.min(way[i / 10][i % 10], way[i / 10][k] + way[k][i % 10]);
            }
        }
        return way[a][b] < 100 ? way[a][b] : NONE;
    }

    int clique(int what) {
        int best = 0;
        for (int set = 0; set <= everyone(); set++) {
            boolean all = true;
            for (int i = 0; i < 100; i++) {
                all &= !has(set, i / 10) || !has(set, i % 10) || i / 10 == i % 10 || world.tied[i / 10][i % 10];
            }
            best = all && Integer.bitCount(set) > Integer.bitCount(best) ? set : best;
        }
        return what == 0 ? Integer.bitCount(best) : what == 1 ? best : NONE;
    }

    boolean undo() {
        if (pasts.isEmpty()) {
            return false;
        }
        World was = pasts.removeLast();
        was.law = world.law;
        was.council = world.council;
        was.bids = world.bids;
        world = was;
        return true;
    }

    boolean image(boolean taken) {
        if (taken) {
            image = world.copy();
        } else if (image != null) {
            world = image.copy();
            pasts.clear();
        }
        return image != null;
    }

    int look(int what) {
        int voices = 0;
        for (Person p : world.people) {
            voices += p.names >= 0 ? 1 : 0;
        }
        int[] all = {size(), world.year, world.wear, world.rest, world.limit, world.noticed, world.worth, world.book.size(),
            world.draws, world.law.size(), voices, world.works.size(), world.council.parts(), world.bids.size(), pasts.size(),
            byVoices(world), world.dust, world.wax};
        return in(what, 0, all.length - 1) ? all[what] : NONE;
    }
}
