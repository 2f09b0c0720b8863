/** The year's spare day, as DOC.md promises it. */
public final class SpareDay {
    public static final int NONE = -1;

    private static final int MOST_PEOPLE = 10;
    private static final int ALL_SETS = 1024;
    private static final int MOST_WORKS = 12;
    private static final int ALL_WORK_SETS = 4096;
    private static final int MOST_BIDS = 8;
    private static final int LAW_LINES = 16;
    private static final int BOOK_LINES = 150;
    private static final int TAPE_BYTES = 400;
    private static final int FEED_BYTES = 20;
    private static final int KEPT_PASTS = 6;
    private static final int DAY = 24;
    private static final int LAST_YEAR = 999;
    private static final int OLDEST = 99;
    private static final int MOST_YEARS = 40;
    private static final int MOST_TURNS = 10;
    private static final int FIRST_TURN = 10;
    private static final int MOST_NOTICE = 1000;
    private static final int MOST_NUMBER = 9999;
    private static final int MOST_OPEN = 8;
    /** Two values can wait at each of eight open brackets, and six beside them: 22, so this never fills. */
    private static final int STACK = 64;

    /** What a call answers where NONE is an answer of its own. */
    private static final int NO_SUCH = -2;
    /** What a YEAR came to that rested; one that was kept came to NONE. */
    private static final int RESTED = -2;

    private static final int LINE_GIVEN = 0;
    private static final int LINE_RESTED = 1;
    private static final int LINE_KEPT = 2;
    private static final int LINE_WORK = 3;
    private static final int LINE_NOTICED = 4;

    private static final int CANT_STAND = 1;
    private static final int CANT_BE = 2;
    private static final int TOO_MANY = 3;

    /* Kinds of tokens: a sign is its own character, a keyword 256 and its place in WORDS. */
    private static final int FINISH = -1;
    private static final int NUMBER = -2;
    private static final int STRANGE = -3;
    private static final String WORDS = "weight wear notice when or and not person age need had since worn year ties used names work for worth dust wax after most ";
    private static final int FIRST_WORD = 256;
    private static final int WEIGHT = 256;
    private static final int WEAR = 257;
    private static final int NOTICE = 258;
    private static final int WHEN = 259;
    private static final int OR = 260;
    private static final int AND = 261;
    private static final int NOT = 262;
    private static final int FIRST_FACT = 263;
    private static final int LAST_FACT = 271;
    private static final int NAMES = 272;
    private static final int WORK = 273;
    private static final int FOR = 274;
    private static final int WORTH = 275;
    private static final int DUST = 276;
    private static final int WAX = 277;
    private static final int AFTER = 278;
    private static final int MOST = 279;
    /* Steps of a Code that are no kinds of tokens. */
    private static final int FACT = 300;
    private static final int VOICE = 301;

    private static final int FACTS = 9;
    private static final int USED = 8;

    private final Realm realm;
    private final Realm likeness;
    private boolean hasLikeness;
    private final Moment[] pasts;
    private int oldest;
    private int kept;
    private final Moment thought;
    private final Reader reader;
    private final boolean[] doing;

    public SpareDay() {
        realm = new Realm();
        likeness = new Realm();
        hasLikeness = false;
        pasts = new Moment[KEPT_PASTS];
        for (int i = 0; i < KEPT_PASTS; i++) {
            pasts[i] = new Moment();
        }
        oldest = 0;
        kept = 0;
        thought = new Moment();
        reader = new Reader();
        doing = new boolean[ALL_SETS];
    }

    public int state(int v) {
        int was = realm.now.draws;
        realm.now.draws = v;
        forgetPasts();
        return was;
    }

    public int person(int age, int need) {
        if (!within(age, 0, OLDEST) || !within(need, 0, DAY) || realm.people >= MOST_PEOPLE) {
            return NONE;
        }
        forgetPasts();
        return realm.welcome(age, need);
    }

    public boolean set(int what, int who, int v) {
        if (!canBeSet(what, who, v)) {
            return false;
        }
        forgetPasts();
        switch (what) {
            case 0:
                realm.now.wear = v;
                break;
            case 1:
                realm.rest = v;
                break;
            case 2:
                realm.limit = v;
                break;
            case 3:
                realm.need[who] = v;
                break;
            case 4:
                realm.by[who] = v;
                break;
            default:
                realm.now.age[who] = v;
                break;
        }
        return true;
    }

    private boolean canBeSet(int what, int who, int v) {
        switch (what) {
            case 0:
            case 1:
                return within(v, 0, DAY);
            case 2:
                return within(v, 1, DAY);
            case 3:
                return realm.has(who) && within(v, 0, DAY);
            case 4:
                return realm.has(who) && within(v, 0, LAST_YEAR);
            case 5:
                return realm.has(who) && within(v, 0, OLDEST);
            default:
                return false;
        }
    }

    public boolean tie(int a, int b, boolean is) {
        if (!realm.has(a) || !realm.has(b) || a == b) {
            return false;
        }
        if (isIn(realm.now.tied[a], b) == is) {
            return false;
        }
        keepPast();
        realm.now.tied[a] ^= 1 << b;
        realm.now.tied[b] ^= 1 << a;
        return true;
    }

    public int sit(int n) {
        if (!within(n, 1, DAY)) {
            return NONE;
        }
        keepPast();
        realm.now.wearBy(n);
        return realm.now.wear;
    }

    public int years(int n) {
        if (!within(n, 1, MOST_YEARS) || realm.now.year + n > LAST_YEAR) {
            return NONE;
        }
        int times = 0;
        for (int i = 0; i < n; i++) {
            keepPast();
            if (realm.pass(realm.now, true) >= 0) {
                times++;
            }
        }
        return times;
    }

    public int feed(int a, int b, int c, int d, int e) {
        if (!reader.hasRoom(FEED_BYTES)) {
            return NONE;
        }
        reader.append(a);
        reader.append(b);
        reader.append(c);
        reader.append(d);
        reader.append(e);
        return reader.bytes;
    }

    public boolean end(int n) {
        if (!within(n, 0, reader.bytes)) {
            return false;
        }
        reader.bytes = n;
        return true;
    }

    public int text(int k) {
        reader.begin(realm.people);
        switch (k) {
            case 0:
                if (!reader.readLaw()) {
                    return NONE;
                }
                realm.law.copy(reader.law);
                return realm.law.lines;
            case 1:
                if (!reader.readVoices()) {
                    return NONE;
                }
                forgetPasts();
                System.arraycopy(reader.names, 0, realm.names, 0, MOST_PEOPLE);
                return realm.voices();
            case 2:
                if (!reader.readWorks()) {
                    return NONE;
                }
                forgetPasts();
                realm.works.copy(reader.works);
                realm.now.done = 0;
                return realm.works.count;
            case 3:
                if (!reader.readCouncil()) {
                    return NONE;
                }
                realm.council.copy(reader.council);
                return realm.council.parts;
            default:
                return NONE;
        }
    }

    public int fault(int what) {
        if (what == 0) {
            return reader.fault;
        }
        return what == 1 ? reader.faultPlace : NONE;
    }

    public int of(int person, int what) {
        if (!realm.has(person)) {
            return NO_SUCH;
        }
        switch (what) {
            case 0:
                return realm.now.age[person];
            case 1:
                return realm.need[person];
            case 2:
                return realm.by[person];
            case 3:
                return realm.now.had[person];
            case 4:
                return realm.now.since[person];
            case 5:
                return realm.names[person];
            case 6:
                return realm.now.tied[person];
            case 7:
                return realm.asks(realm.now, WEIGHT, person, 0);
            case 8:
                return weightsNaming(person);
            default:
                return NO_SUCH;
        }
    }

    private int weightsNaming(int person) {
        int sum = 0;
        for (int v = 0; v < realm.people; v++) {
            if (realm.names[v] == person) {
                sum += realm.asks(realm.now, WEIGHT, v, 0);
            }
        }
        return sum;
    }

    public int after(int person, int used, boolean notice) {
        if (!realm.has(person) || !within(used, 0, DAY)) {
            return NONE;
        }
        return realm.asks(realm.now, notice ? NOTICE : WEAR, person, used);
    }

    public int work(int i, int what) {
        Works works = realm.works;
        if (!within(i, 0, works.count - 1)) {
            return NO_SUCH;
        }
        switch (what) {
            case 0:
                return works.owner[i];
            case 1:
                return works.hours[i];
            case 2:
                return works.worth[i];
            case 3:
                return works.dust[i];
            case 4:
                return works.wax[i];
            case 5:
                return works.behind[i];
            case 6:
                return isIn(realm.now.done, i) ? 1 : 0;
            default:
                return NO_SUCH;
        }
    }

    public int book(int i, int what) {
        if (!within(i, 0, realm.now.lines - 1)) {
            return NO_SUCH;
        }
        switch (what) {
            case 0:
                return realm.book.year[i];
            case 1:
                return realm.book.kind[i];
            case 2:
                return realm.book.whom[i];
            case 3:
                return realm.book.hours[i];
            default:
                return NO_SUCH;
        }
    }

    public boolean does(int people) {
        return realm.council.isMetBy(people & realm.everyone());
    }

    public int plan(int person, int h, int what) {
        if (!realm.has(person) || !within(h, 0, DAY) || !within(what, 0, 2)) {
            return NONE;
        }
        Works works = realm.works;
        int best = works.bestSet(person, h, realm.now.done);
        if (what == 2) {
            return best;
        }
        return works.sum(best, what == 0 ? works.worth : works.hours);
    }

    public int given(int n, int what) {
        if (!within(n, 1, MOST_YEARS) || !within(what, 0, 2)) {
            return NO_SUCH;
        }
        thought.copy(realm.now);
        int whom = NONE;
        int rested = 0;
        for (int i = 0; i < n; i++) {
            whom = realm.pass(thought, false);
            if (whom == RESTED) {
                rested++;
            }
        }
        if (what == 0) {
            return Math.max(whom, NONE);
        }
        return what == 1 ? rested : thought.worth - realm.now.worth;
    }

    public int can(int person) {
        if (!realm.has(person)) {
            return NONE;
        }
        realm.weigh(realm.now);
        int all = 0;
        for (int other = NONE; other < realm.people; other++) {
            int whom = other == person ? NONE : realm.elect(person, other);
            if (whom >= 0) {
                all |= 1 << whom;
            }
        }
        return all;
    }

    public int fewest(int person, int what) {
        if (!realm.has(person) || !within(what, 0, 1)) {
            return NONE;
        }
        fillDoing();
        int all = realm.everyone();
        int best = NONE;
        for (int set = 0; set <= all && set < ALL_SETS; set++) {
            if (doing[set] && !isIn(set, person)
                    && (best == NONE || Integer.bitCount(set) < Integer.bitCount(best))) {
                best = set;
            }
        }
        if (best == NONE) {
            return NONE;
        }
        return what == 0 ? Integer.bitCount(best) : best;
    }

    public int hinge(int person) {
        if (!realm.has(person)) {
            return NONE;
        }
        fillDoing();
        int all = realm.everyone();
        int sets = 0;
        for (int set = 0; set <= all && set < ALL_SETS; set++) {
            if (isIn(set, person) && doing[set] && !doing[set ^ 1 << person]) {
                sets++;
            }
        }
        return sets;
    }

    /** Each set of PEOPLE is put to THE COUNCIL once, however often it is looked at then. */
    private void fillDoing() {
        int all = realm.everyone();
        for (int set = 0; set <= all && set < ALL_SETS; set++) {
            doing[set] = realm.council.isMetBy(set);
        }
    }

    public int turnsOf(int n, int what) {
        if (!within(n, 1, MOST_TURNS)) {
            return NO_SUCH;
        }
        if (what == 0) {
            return mostTurns(0, n, 0);
        }
        if (!within(what, FIRST_TURN, FIRST_TURN + n - 1)) {
            return NO_SUCH;
        }
        int whom = NONE;
        int used = 0;
        for (int i = 0; i <= what - FIRST_TURN; i++) {
            whom = firstInTurn(i, n, used);
            if (whom >= 0) {
                used |= 1 << whom;
            }
        }
        return whom;
    }

    /** The least PERSON with whom as many as can be still have it from the i-th YEAR on; else NONE. */
    private int firstInTurn(int i, int n, int used) {
        int most = mostTurns(i, n, used);
        for (int p = 0; p < realm.people; p++) {
            if (!isIn(used, p) && realm.by[p] >= realm.now.year + i
                    && 1 + mostTurns(i + 1, n, used | 1 << p) == most) {
                return p;
            }
        }
        return NONE;
    }

    /** Whoever's BY comes first goes first: no other order serves more PEOPLE. */
    private int mostTurns(int from, int n, int used) {
        int served = used;
        for (int i = from; i < n; i++) {
            int hastiest = NONE;
            for (int p = 0; p < realm.people; p++) {
                if (!isIn(served, p) && realm.by[p] >= realm.now.year + i
                        && (hastiest == NONE || realm.by[p] < realm.by[hastiest])) {
                    hastiest = p;
                }
            }
            if (hastiest >= 0) {
                served |= 1 << hastiest;
            }
        }
        return Integer.bitCount(served) - Integer.bitCount(used);
    }

    public boolean traces(int dust, int wax) {
        if (!within(dust, 0, 200) || !within(wax, 0, 200)) {
            return false;
        }
        forgetPasts();
        realm.dust = dust;
        realm.wax = wax;
        return true;
    }

    public int fits(int person, int what) {
        if (!realm.has(person) || !within(what, 0, 1)) {
            return NONE;
        }
        realm.countFits(person);
        return what == 0 ? realm.works.fitSets : realm.works.leastFit;
    }

    public int lookAt(int person) {
        if (!realm.has(person)) {
            return NONE;
        }
        realm.countFits(person);
        return realm.works.mostTelling(person);
    }

    public int share(int a, int b, int what) {
        if (!within(a, 0, 2 * DAY) || !within(b, 0, 2 * DAY) || !within(what, 0, 1)) {
            return NONE;
        }
        int hours = realm.now.hoursLeft();
        int own = what == 0 ? a : b;
        if (a + b <= hours) {
            return 2 * own;
        }
        int firstA = Math.min(a, Math.max(0, hours - b));
        int firstB = Math.min(b, Math.max(0, hours - a));
        return 2 * (what == 0 ? firstA : firstB) + hours - firstA - firstB;
    }

    public int bid(int person, int v) {
        Bids bids = realm.bids;
        if (person == NONE) {
            bids.count = 0;
            return 0;
        }
        if (!realm.has(person) || !within(v, 0, MOST_NUMBER) || bids.count >= MOST_BIDS) {
            return NONE;
        }
        bids.add(person, v);
        return bids.count;
    }

    public int sold(int what) {
        Bids bids = realm.bids;
        if (bids.count == 0) {
            return NONE;
        }
        switch (what) {
            case 0:
                return bids.winner();
            case 1:
                return bids.price();
            default:
                return NONE;
        }
    }

    public int rests(int w) {
        if (w < 1 || w > DAY) {
            return NONE;
        }
        int left = realm.limit - realm.now.wear;
        return left <= 0 ? 0 : (left + w - 1) / w;
    }

    public int weekday(int d, int y, int k, int m) {
        if (!within(d, 0, 364) || !within(y, 0, LAST_YEAR) || !within(k, 0, 1) || !within(m, 0, 364)) {
            return NONE;
        }
        int spare = k * y + (d >= m ? k : 0);
        return (365 * y + d + spare) % 7;
    }

    public int next() {
        int best = NONE;
        for (int p = 0; p < realm.people; p++) {
            if (realm.now.had[p] == 0 && (best == NONE || comesBefore(p, best))) {
                best = p;
            }
        }
        return best;
    }

    private boolean comesBefore(int p, int other) {
        if (realm.need[p] != realm.need[other]) {
            return realm.need[p] > realm.need[other];
        }
        return realm.now.age[p] > realm.now.age[other];
    }

    public int due(int what) {
        if (!within(what, 0, 1)) {
            return NONE;
        }
        int need = 0;
        int first = NONE;
        for (int p = 0; p < realm.people; p++) {
            if (realm.now.had[p] == 0) {
                need += realm.need[p];
                int left = realm.by[p] - realm.now.year;
                if (left >= 0 && (first == NONE || left < first)) {
                    first = left;
                }
            }
        }
        return what == 0 ? need : first;
    }

    public int doers(int what) {
        if (!within(what, 0, 2)) {
            return NONE;
        }
        fillDoing();
        int all = realm.everyone();
        int sets = 0;
        int bare = 0;
        int inAll = all;
        for (int set = 0; set <= all && set < ALL_SETS; set++) {
            if (doing[set]) {
                sets++;
                bare += needsEachOne(set) ? 1 : 0;
                inAll &= set;
            }
        }
        if (what == 2) {
            return inAll;
        }
        return what == 0 ? sets : bare;
    }

    private boolean needsEachOne(int set) {
        for (int p = 0; p < realm.people; p++) {
            if (isIn(set, p) && doing[set ^ 1 << p]) {
                return false;
            }
        }
        return true;
    }

    public int thieves() {
        int all = 0;
        for (int p = 0; p < realm.people; p++) {
            realm.countFits(p);
            if (realm.works.fitSets > 0) {
                all |= 1 << p;
            }
        }
        return all;
    }

    public int soonest(int person) {
        if (!realm.has(person)) {
            return NONE;
        }
        thought.copy(realm.now);
        for (int i = 0; i < MOST_YEARS; i++) {
            if (realm.pass(thought, false) == person) {
                return i;
            }
        }
        return NONE;
    }

    public int spread(int what) {
        if (what == 0) {
            return spreadOfHad();
        }
        return what == 1 ? latestGiven() : NONE;
    }

    private int spreadOfHad() {
        int[] had = realm.now.had;
        int least = had[0];
        int greatest = had[0];
        for (int p = 1; p < realm.people; p++) {
            least = Math.min(least, had[p]);
            greatest = Math.max(greatest, had[p]);
        }
        return greatest - least;
    }

    private int latestGiven() {
        int best = NONE;
        for (int p = 0; p < realm.people; p++) {
            if (realm.now.had[p] > 0
                    && (best == NONE || realm.now.since[p] < realm.now.since[best])) {
                best = p;
            }
        }
        return best;
    }

    public int way(int a, int b) {
        if (!realm.has(a) || !realm.has(b)) {
            return NONE;
        }
        int reached = 1 << a;
        for (int steps = 0; steps < MOST_PEOPLE; steps++) {
            if (isIn(reached, b)) {
                return steps;
            }
            reached |= tiedTo(reached);
        }
        return NONE;
    }

    private int tiedTo(int set) {
        int all = 0;
        for (int p = 0; p < realm.people; p++) {
            if (isIn(set, p)) {
                all |= realm.now.tied[p];
            }
        }
        return all;
    }

    public int clique(int what) {
        if (!within(what, 0, 1)) {
            return NONE;
        }
        int all = realm.everyone();
        int best = 0;
        for (int set = 0; set <= all && set < ALL_SETS; set++) {
            if (Integer.bitCount(set) > Integer.bitCount(best) && isClique(set)) {
                best = set;
            }
        }
        return what == 0 ? Integer.bitCount(best) : best;
    }

    private boolean isClique(int set) {
        for (int p = 0; p < realm.people; p++) {
            if (isIn(set, p) && (set & ~realm.now.tied[p]) != 1 << p) {
                return false;
            }
        }
        return true;
    }

    public boolean undo() {
        if (kept == 0) {
            return false;
        }
        kept--;
        realm.now.copy(pasts[(oldest + kept) % KEPT_PASTS]);
        return true;
    }

    public boolean image(boolean taken) {
        if (taken) {
            likeness.copy(realm);
            hasLikeness = true;
            return true;
        }
        if (!hasLikeness) {
            return false;
        }
        realm.copy(likeness);
        forgetPasts();
        return true;
    }

    public int look(int what) {
        switch (what) {
            case 0:
                return realm.people;
            case 1:
                return realm.now.year;
            case 2:
                return realm.now.wear;
            case 3:
                return realm.rest;
            case 4:
                return realm.limit;
            case 5:
                return realm.now.noticed;
            case 6:
                return realm.now.worth;
            case 7:
                return realm.now.lines;
            case 8:
                return realm.now.draws;
            default:
                return lookFurther(what);
        }
    }

    private int lookFurther(int what) {
        switch (what) {
            case 9:
                return realm.law.lines;
            case 10:
                return realm.voices();
            case 11:
                return realm.works.count;
            case 12:
                return realm.council.parts;
            case 13:
                return realm.bids.count;
            case 14:
                return kept;
            case 15:
                realm.weigh(realm.now);
                return realm.elect(NONE, NONE);
            case 16:
                return realm.dust;
            case 17:
                return realm.wax;
            default:
                return NONE;
        }
    }

    /** What is about to change is kept; the oldest makes room. */
    private void keepPast() {
        if (kept == KEPT_PASTS) {
            oldest = (oldest + 1) % KEPT_PASTS;
            kept--;
        }
        Moment past = pasts[(oldest + kept) % KEPT_PASTS];
        if (past != null) {
            past.copy(realm.now);
            kept++;
        }
    }

    private void forgetPasts() {
        kept = 0;
    }

    private static boolean within(int v, int least, int greatest) {
        return v >= least && v <= greatest;
    }

    private static int held(int v, int least, int greatest) {
        return Math.max(least, Math.min(greatest, v));
    }

    private static boolean isIn(int set, int i) {
        return (set >> i & 1) == 1;
    }

    /** All that is and was told: what THE IMAGE copies. */
    private static final class Realm {
        private final Moment now = new Moment();
        private final Book book = new Book();
        private final Law law = new Law();
        private final Works works = new Works();
        private final Council council = new Council();
        private final Bids bids = new Bids();
        private final int[] need = new int[MOST_PEOPLE];
        private final int[] by = new int[MOST_PEOPLE];
        private final int[] names = new int[MOST_PEOPLE];
        private final int[] weights = new int[MOST_PEOPLE];
        private final int[] facts = new int[FACTS];
        private int people;
        private int rest = 2;
        private int limit = 12;
        private int dust;
        private int wax;

        private void copy(Realm from) {
            now.copy(from.now);
            book.copy(from.book);
            law.copy(from.law);
            works.copy(from.works);
            council.copy(from.council);
            bids.copy(from.bids);
            System.arraycopy(from.need, 0, need, 0, MOST_PEOPLE);
            System.arraycopy(from.by, 0, by, 0, MOST_PEOPLE);
            System.arraycopy(from.names, 0, names, 0, MOST_PEOPLE);
            people = from.people;
            rest = from.rest;
            limit = from.limit;
            dust = from.dust;
            wax = from.wax;
        }

        private boolean has(int person) {
            return person >= 0 && person < people;
        }

        private int everyone() {
            return (1 << people) - 1;
        }

        private int voices() {
            int count = 0;
            for (int p = 0; p < people; p++) {
                count += names[p] == NONE ? 0 : 1;
            }
            return count;
        }

        /** Every row is written, so that nothing hangs on what stood there. */
        private int welcome(int age, int personsNeed) {
            int p = people;
            if (p >= MOST_PEOPLE) {
                return NONE;
            }
            need[p] = personsNeed;
            by[p] = LAST_YEAR;
            names[p] = NONE;
            now.age[p] = age;
            now.had[p] = 0;
            now.since[p] = 0;
            now.tied[p] = 0;
            people++;
            return p;
        }

        /** What THE LAW tells of a PERSON for a word. */
        private int asks(Moment at, int word, int p, int used) {
            facts[0] = p;
            facts[1] = at.age[p];
            facts[2] = need[p];
            facts[3] = at.had[p];
            facts[4] = at.since[p];
            facts[5] = at.wear;
            facts[6] = at.year;
            facts[7] = Integer.bitCount(at.tied[p]);
            facts[USED] = used;
            return held(law.tells(word, facts), 0, word == NOTICE ? MOST_NOTICE : DAY);
        }

        private void weigh(Moment at) {
            for (int p = 0; p < people; p++) {
                weights[p] = asks(at, WEIGHT, p, 0);
            }
        }

        /** Who is GIVEN by VOICES as weighed last, if voter (NONE: nobody) named other. */
        private int elect(int voter, int other) {
            int best = NONE;
            int most = 0;
            for (int p = 0; p < people; p++) {
                int sum = 0;
                int naming = 0;
                for (int v = 0; v < people; v++) {
                    if ((v == voter ? other : names[v]) == p) {
                        sum += weights[v];
                        naming |= 1 << v;
                    }
                }
                boolean better = sum > most || best != NONE && sum == most && need[p] > need[best];
                if (better && council.isMetBy(naming)) {
                    best = p;
                    most = sum;
                }
            }
            return best;
        }

        /** A YEAR goes by: who is GIVEN, NONE or RESTED. Where it is not real there are no DRAWS and no BOOK. */
        private int pass(Moment at, boolean real) {
            int whom = RESTED;
            if (at.wear >= limit) {
                at.wear = Math.max(0, at.wear - rest);
            } else {
                weigh(at);
                whom = elect(NONE, NONE);
            }
            if (whom >= 0) {
                giveTo(at, whom, real);
            } else if (real) {
                book.write(at, whom == RESTED ? LINE_RESTED : LINE_KEPT, NONE, 0);
            }
            at.growOlder(people, whom);
            return whom;
        }

        private void giveTo(Moment at, int p, boolean real) {
            int set = works.bestSet(p, at.hoursLeft(), at.done);
            int used = works.sum(set, works.hours);
            at.done |= set;
            at.worth += works.sum(set, works.worth);
            int wear = asks(at, WEAR, p, used);
            int notice = asks(at, NOTICE, p, used);
            at.wearBy(wear);
            if (real) {
                boolean noticed = at.draw(MOST_NOTICE) < notice;
                at.noticed += noticed ? 1 : 0;
                enter(at, p, set, noticed);
            }
        }

        private void enter(Moment at, int p, int set, boolean noticed) {
            book.write(at, LINE_GIVEN, p, works.sum(set, works.hours));
            for (int i = 0; i < works.count; i++) {
                if (isIn(set, i)) {
                    book.write(at, LINE_WORK, i, works.hours[i]);
                }
            }
            if (noticed) {
                book.write(at, LINE_NOTICED, p, 0);
            }
        }

        private void countFits(int person) {
            works.countFits(person, now.done, dust, wax);
        }
    }

    /** What a YEAR, a SITTING or a TYING can change: so one copy undoes it, and another is a thought. */
    private static final class Moment {
        private final int[] age = new int[MOST_PEOPLE];
        private final int[] had = new int[MOST_PEOPLE];
        private final int[] since = new int[MOST_PEOPLE];
        private final int[] tied = new int[MOST_PEOPLE];
        private int wear;
        private int year;
        private int noticed;
        private int worth;
        private int done;
        private int draws;
        /** The lines of THE BOOK that count: those behind were undone, and are written over. */
        private int lines;

        private void copy(Moment from) {
            if (from == null) {
                return;
            }
            System.arraycopy(from.age, 0, age, 0, MOST_PEOPLE);
            System.arraycopy(from.had, 0, had, 0, MOST_PEOPLE);
            System.arraycopy(from.since, 0, since, 0, MOST_PEOPLE);
            System.arraycopy(from.tied, 0, tied, 0, MOST_PEOPLE);
            wear = from.wear;
            year = from.year;
            noticed = from.noticed;
            worth = from.worth;
            done = from.done;
            draws = from.draws;
            lines = from.lines;
        }

        private int hoursLeft() {
            return DAY - wear;
        }

        private void wearBy(int n) {
            wear = Math.min(DAY, wear + n);
        }

        private int draw(int m) {
            draws = 1664525 * draws + 1013904223;
            return m > 0 ? (draws >>> 8) % m : 0;
        }

        private void growOlder(int people, int whom) {
            for (int p = 0; p < people && p < MOST_PEOPLE; p++) {
                if (p == whom) {
                    had[p]++;
                    since[p] = 0;
                } else {
                    since[p]++;
                }
                age[p] = Math.min(OLDEST, age[p] + 1);
            }
            year++;
        }
    }

    private static final class Book {
        private final int[] year = new int[BOOK_LINES];
        private final int[] kind = new int[BOOK_LINES];
        private final int[] whom = new int[BOOK_LINES];
        private final int[] hours = new int[BOOK_LINES];

        private void copy(Book from) {
            System.arraycopy(from.year, 0, year, 0, BOOK_LINES);
            System.arraycopy(from.kind, 0, kind, 0, BOOK_LINES);
            System.arraycopy(from.whom, 0, whom, 0, BOOK_LINES);
            System.arraycopy(from.hours, 0, hours, 0, BOOK_LINES);
        }

        private void write(Moment at, int lineKind, int lineWhom, int lineHours) {
            int i = at.lines;
            if (i < 0 || i >= BOOK_LINES) {
                return;
            }
            year[i] = at.year;
            kind[i] = lineKind;
            whom[i] = lineWhom;
            hours[i] = lineHours;
            at.lines++;
        }
    }

    private static final class Bids {
        private final int[] bidder = new int[MOST_BIDS];
        private final int[] amount = new int[MOST_BIDS];
        private int count;

        private void copy(Bids from) {
            System.arraycopy(from.bidder, 0, bidder, 0, MOST_BIDS);
            System.arraycopy(from.amount, 0, amount, 0, MOST_BIDS);
            count = from.count;
        }

        private void add(int person, int v) {
            if (count < MOST_BIDS) {
                bidder[count] = person;
                amount[count] = v;
                count++;
            }
        }

        private int greatest() {
            int best = 0;
            for (int i = 1; i < count; i++) {
                if (amount[i] > amount[best]) {
                    best = i;
                }
            }
            return best;
        }

        private int winner() {
            return bidder[greatest()];
        }

        private int price() {
            int best = greatest();
            int second = 0;
            for (int i = 0; i < count; i++) {
                if (i != best) {
                    second = Math.max(second, amount[i]);
                }
            }
            return second;
        }
    }

    private static final class Works {
        private final int[] owner = new int[MOST_WORKS];
        private final int[] hours = new int[MOST_WORKS];
        private final int[] worth = new int[MOST_WORKS];
        private final int[] dust = new int[MOST_WORKS];
        private final int[] wax = new int[MOST_WORKS];
        private final int[] behind = new int[MOST_WORKS];
        private int count;
        /* What was counted last of sets that FIT: how many in all, how many with each WORK, the least. */
        private final int[] fitsWith = new int[MOST_WORKS];
        private int fitSets;
        private int leastFit;

        private void copy(Works from) {
            System.arraycopy(from.owner, 0, owner, 0, MOST_WORKS);
            System.arraycopy(from.hours, 0, hours, 0, MOST_WORKS);
            System.arraycopy(from.worth, 0, worth, 0, MOST_WORKS);
            System.arraycopy(from.dust, 0, dust, 0, MOST_WORKS);
            System.arraycopy(from.wax, 0, wax, 0, MOST_WORKS);
            System.arraycopy(from.behind, 0, behind, 0, MOST_WORKS);
            count = from.count;
        }

        private int ownedBy(int person, int mostHours) {
            int set = 0;
            for (int i = 0; i < count; i++) {
                if (owner[i] == person && hours[i] <= mostHours) {
                    set |= 1 << i;
                }
            }
            return set;
        }

        private int sum(int set, int[] row) {
            int sum = 0;
            for (int i = 0; i < count && i < row.length; i++) {
                if (isIn(set, i)) {
                    sum += row[i];
                }
            }
            return sum;
        }

        /** Whether each one of a set has that which it is after, in it or DONE. */
        private boolean isWhole(int set, int done) {
            for (int i = 0; i < count; i++) {
                if (isIn(set, i) && behind[i] != NONE && !isIn(set | done, behind[i])) {
                    return false;
                }
            }
            return true;
        }

        private int bestSet(int person, int h, int done) {
            int open = ownedBy(person, h) & ~done;
            int best = 0;
            int mostWorth = 0;
            int fewestHours = 0;
            int set = 0;
            for (int n = 1; n < ALL_WORK_SETS; n++) {
                // the next greater one of the sets within open, until it comes round to none
                set = set - open & open;
                if (set == 0) {
                    break;
                }
                int used = sum(set, hours);
                int made = used <= h ? sum(set, worth) : NONE;
                if ((made > mostWorth || made == mostWorth && used < fewestHours) && isWhole(set, done)) {
                    best = set;
                    mostWorth = made;
                    fewestHours = used;
                }
            }
            return best;
        }

        private void countFits(int person, int done, int dustLeft, int waxLeft) {
            int own = ownedBy(person, DAY);
            fitSets = 0;
            leastFit = NONE;
            for (int i = 0; i < MOST_WORKS; i++) {
                fitsWith[i] = 0;
            }
            int set = 0;
            for (int n = 0; n < ALL_WORK_SETS; n++) {
                if (sum(set, dust) == dustLeft && sum(set, wax) == waxLeft
                        && sum(set, hours) <= DAY && isWhole(set, done)) {
                    countFit(set);
                }
                set = set - own & own;
                if (set == 0) {
                    break;
                }
            }
        }

        private void countFit(int set) {
            if (fitSets == 0) {
                leastFit = set;
            }
            fitSets++;
            for (int i = 0; i < count; i++) {
                if (isIn(set, i)) {
                    fitsWith[i]++;
                }
            }
        }

        /** The WORK that parts the sets counted last most evenly; NONE if there is nothing to part. */
        private int mostTelling(int person) {
            if (fitSets < 2) {
                return NONE;
            }
            int best = NONE;
            int least = 0;
            for (int i = 0; i < count; i++) {
                int greater = Math.max(fitsWith[i], fitSets - fitsWith[i]);
                if (owner[i] == person && (best == NONE || greater < least)) {
                    best = i;
                    least = greater;
                }
            }
            return best;
        }
    }

    private static final class Council {
        private final Code code = new Code();
        /** Its PERSONS and mosts. */
        private int parts;

        private void copy(Council from) {
            code.copy(from.code);
            parts = from.parts;
        }

        private boolean isMetBy(int set) {
            return parts == 0 || code.run(0, code.size, null, set) != 0;
        }
    }

    private static final class Law {
        private final Code code = new Code();
        private final int[] words = new int[LAW_LINES];
        /* Of each line where in the code its E begins, its B, and where that ends (at once, if it has none). */
        private final int[] starts = new int[LAW_LINES];
        private final int[] whens = new int[LAW_LINES];
        private final int[] ends = new int[LAW_LINES];
        private int lines;

        private void copy(Law from) {
            code.copy(from.code);
            System.arraycopy(from.words, 0, words, 0, LAW_LINES);
            System.arraycopy(from.starts, 0, starts, 0, LAW_LINES);
            System.arraycopy(from.whens, 0, whens, 0, LAW_LINES);
            System.arraycopy(from.ends, 0, ends, 0, LAW_LINES);
            lines = from.lines;
        }

        private void add(int word, int start, int when) {
            if (lines < LAW_LINES) {
                words[lines] = word;
                starts[lines] = start;
                whens[lines] = when;
                ends[lines] = code.size;
                lines++;
            }
        }

        private int tells(int word, int[] facts) {
            for (int i = 0; i < lines; i++) {
                boolean always = whens[i] == ends[i];
                if (words[i] == word && (always || code.run(whens[i], ends[i], facts, 0) != 0)) {
                    return code.run(starts[i], whens[i], facts, 0);
                }
            }
            switch (word) {
                case WEIGHT:
                    return 1;
                case WEAR:
                    return facts[USED] / 8;
                default:
                    return 100;
            }
        }
    }

    /** A text as steps for a stack: asked often, it is read once, and asked without recursion. */
    private static final class Code {
        private final int[] ops = new int[TAPE_BYTES];
        private final int[] args = new int[TAPE_BYTES];
        private final int[] stack = new int[STACK];
        private int size;

        private void copy(Code from) {
            System.arraycopy(from.ops, 0, ops, 0, TAPE_BYTES);
            System.arraycopy(from.args, 0, args, 0, TAPE_BYTES);
            size = from.size;
        }

        private void add(int op, int arg) {
            if (size < TAPE_BYTES) {
                ops[size] = op;
                args[size] = arg;
                size++;
            }
        }

        private int run(int start, int end, int[] facts, int set) {
            int top = 0;
            for (int i = Math.max(start, 0); i < end && i < size; i++) {
                int op = ops[i];
                if (isValue(op)) {
                    if (top < STACK) {
                        stack[top] = value(op, args[i], facts, set);
                        top++;
                    }
                } else if (op == '/' || op == NOT) {
                    if (top > 0) {
                        stack[top - 1] = changed(op, args[i], stack[top - 1]);
                    }
                } else if (top > 1) {
                    top--;
                    stack[top - 1] = joined(op, stack[top - 1], stack[top]);
                }
            }
            return top > 0 ? stack[top - 1] : 0;
        }

        private static boolean isValue(int op) {
            return op == NUMBER || op == FACT || op == VOICE || op == MOST;
        }

        private static int value(int op, int arg, int[] facts, int set) {
            switch (op) {
                case NUMBER:
                    return arg;
                case FACT:
                    return facts != null && arg >= 0 && arg < facts.length ? facts[arg] : 0;
                case VOICE:
                    return set >> arg & 1;
                default:
                    return Integer.bitCount(set) >= arg ? 1 : 0;
            }
        }

        private static int changed(int op, int arg, int v) {
            if (op == NOT) {
                return 1 - v;
            }
            return arg == 0 ? 0 : v / arg;
        }

        private static int joined(int op, int a, int b) {
            switch (op) {
                case '+':
                    return a + b;
                case '-':
                    return a - b;
                case '*':
                    return a * b;
                case '<':
                    return a < b ? 1 : 0;
                case '=':
                    return a == b ? 1 : 0;
                case '>':
                    return a > b ? 1 : 0;
                case AND:
                    return a & b;
                default:
                    return a | b;
            }
        }
    }

    /** The TAPE, its tokens, and the TEXTS as they are read: taken over only when there is no FAULT. */
    private static final class Reader {
        private final int[] tape = new int[TAPE_BYTES];
        private int bytes;
        private final int[] kinds = new int[TAPE_BYTES + 1];
        private final int[] values = new int[TAPE_BYTES + 1];
        private final int[] places = new int[TAPE_BYTES + 1];
        private int tokens;
        private int at;
        private int kind;
        private int value;
        private int people;
        private int fault;
        private int faultPlace = NONE;
        private final Law law = new Law();
        private final int[] names = new int[MOST_PEOPLE];
        private final Works works = new Works();
        private final Council council = new Council();

        private boolean hasRoom(int more) {
            return bytes + more <= TAPE_BYTES;
        }

        private void append(int four) {
            for (int shift = 24; shift >= 0 && bytes < TAPE_BYTES; shift -= 8) {
                tape[bytes] = four >>> shift & 255;
                bytes++;
            }
        }

        /** Ready at the first token; the TAPE is empty then. */
        private void begin(int peopleNow) {
            people = peopleNow;
            fault = 0;
            faultPlace = NONE;
            findTokens();
            bytes = 0;
            at = NONE;
            forward();
        }

        private void findTokens() {
            tokens = 0;
            int i = 0;
            while (i < bytes) {
                int c = tape[i];
                int till = i + 1;
                if (isLetter(c)) {
                    while (till < bytes && isLetter(tape[till])) {
                        till++;
                    }
                    addToken(wordKind(i, till), 0, i);
                } else if (isDigit(c)) {
                    while (till < bytes && isDigit(tape[till])) {
                        till++;
                    }
                    addToken(till - i <= 4 ? NUMBER : STRANGE, numberAt(i, till), i);
                } else if (c != ' ' && c != 10) {
                    addToken(signKind(c), 0, i);
                }
                i = till;
            }
            addToken(FINISH, 0, bytes);
        }

        private void addToken(int tokenKind, int tokenValue, int place) {
            if (tokens <= TAPE_BYTES) {
                kinds[tokens] = tokenKind;
                values[tokens] = tokenValue;
                places[tokens] = place;
                tokens++;
            }
        }

        private static boolean isLetter(int c) {
            return c >= 'a' && c <= 'z' || c >= 'A' && c <= 'Z';
        }

        private static boolean isDigit(int c) {
            return c >= '0' && c <= '9';
        }

        private static int signKind(int c) {
            switch (c) {
                case ';':
                case '+':
                case '-':
                case '*':
                case '/':
                case '(':
                case ')':
                case '<':
                case '=':
                case '>':
                    return c;
                default:
                    return STRANGE;
            }
        }

        private int numberAt(int from, int till) {
            int v = 0;
            for (int i = from; i < till && i < TAPE_BYTES; i++) {
                v = v * 10 + tape[i] - '0';
            }
            return v;
        }

        private int wordKind(int from, int till) {
            int word = FIRST_WORD;
            int i = from;
            boolean same = true;
            for (int w = 0; w < WORDS.length(); w++) {
                char c = WORDS.charAt(w);
                if (c == ' ') {
                    if (same && i == till) {
                        return word;
                    }
                    word++;
                    i = from;
                    same = true;
                } else {
                    same = same && i < till && tape[i] == c;
                    i++;
                }
            }
            return STRANGE;
        }

        private void forward() {
            if (at + 1 < tokens) {
                at++;
                kind = kinds[at];
                value = values[at];
            }
        }

        private boolean refuse(int what) {
            fault = what;
            faultPlace = places[at];
            return false;
        }

        private boolean skip(int wanted) {
            if (kind != wanted) {
                return refuse(CANT_STAND);
            }
            forward();
            return true;
        }

        private boolean isNumber(int least, int greatest) {
            if (kind != NUMBER) {
                return refuse(CANT_STAND);
            }
            return within(value, least, greatest) || refuse(CANT_BE);
        }

        private boolean readLaw() {
            law.lines = 0;
            law.code.size = 0;
            for (int n = 0; n < TAPE_BYTES && kind != FINISH; n++) {
                int word = kind;
                if (word != WEIGHT && word != WEAR && word != NOTICE) {
                    return refuse(CANT_STAND);
                }
                if (law.lines >= LAW_LINES) {
                    return refuse(TOO_MANY);
                }
                forward();
                int start = law.code.size;
                if (!readSum(law.code)) {
                    return false;
                }
                int when = law.code.size;
                if (kind == WHEN) {
                    forward();
                    if (!readAny(law.code, false, 0)) {
                        return false;
                    }
                }
                if (!skip(';')) {
                    return false;
                }
                law.add(word, start, when);
            }
            return true;
        }

        private boolean readCouncil() {
            council.parts = 0;
            council.code.size = 0;
            if (kind == FINISH) {
                return true;
            }
            return readAny(council.code, true, 0) && skip(FINISH);
        }

        /** A {or A} of A = C {and C}, of THE LAW or (rule) of THE COUNCIL, with so many ( and not open. */
        private boolean readAny(Code code, boolean rule, int open) {
            boolean waitsOr = false;
            boolean waitsAnd = false;
            for (int n = 0; n < TAPE_BYTES; n++) {
                if (!readOne(code, rule, open)) {
                    return false;
                }
                if (waitsAnd) {
                    code.add(AND, 0);
                }
                waitsAnd = kind == AND;
                if (!waitsAnd) {
                    if (waitsOr) {
                        code.add(OR, 0);
                    }
                    waitsOr = kind == OR;
                    if (!waitsOr) {
                        return true;
                    }
                }
                forward();
            }
            return refuse(CANT_STAND);
        }

        private boolean readOne(Code code, boolean rule, int open) {
            if (kind == '(' || kind == NOT && !rule) {
                if (open >= MOST_OPEN) {
                    return refuse(TOO_MANY);
                }
                boolean not = kind == NOT;
                forward();
                if (!not) {
                    return readAny(code, rule, open + 1) && skip(')');
                }
                if (!readOne(code, rule, open + 1)) {
                    return false;
                }
                code.add(NOT, 0);
                return true;
            }
            if (rule) {
                return readPart(code);
            }
            if (!readSum(code)) {
                return false;
            }
            int sign = kind;
            if (sign != '<' && sign != '=' && sign != '>') {
                return refuse(CANT_STAND);
            }
            forward();
            if (!readSum(code)) {
                return false;
            }
            code.add(sign, 0);
            return true;
        }

        private boolean readPart(Code code) {
            boolean most = kind == MOST;
            if (most) {
                forward();
            }
            if (!isNumber(most ? 1 : 0, most ? MOST_PEOPLE : people - 1)) {
                return false;
            }
            code.add(most ? MOST : VOICE, value);
            forward();
            council.parts++;
            return true;
        }

        /** T {(+ | -) T}. */
        private boolean readSum(Code code) {
            int waits = 0;
            for (int n = 0; n < TAPE_BYTES; n++) {
                if (!readTerm(code)) {
                    return false;
                }
                if (waits != 0) {
                    code.add(waits, 0);
                }
                if (kind != '+' && kind != '-') {
                    return true;
                }
                waits = kind;
                forward();
            }
            return refuse(CANT_STAND);
        }

        /** U {* U | / NUMBER}. */
        private boolean readTerm(Code code) {
            if (!readUnit(code)) {
                return false;
            }
            for (int n = 0; n < TAPE_BYTES && (kind == '*' || kind == '/'); n++) {
                int sign = kind;
                forward();
                if (sign == '*') {
                    if (!readUnit(code)) {
                        return false;
                    }
                    code.add('*', 0);
                } else {
                    if (!isNumber(1, MOST_NUMBER)) {
                        return false;
                    }
                    code.add('/', value);
                    forward();
                }
            }
            return true;
        }

        private boolean readUnit(Code code) {
            if (kind >= FIRST_FACT && kind <= LAST_FACT) {
                code.add(FACT, kind - FIRST_FACT);
            } else if (kind == NUMBER) {
                code.add(NUMBER, value);
            } else {
                return refuse(CANT_STAND);
            }
            forward();
            return true;
        }

        private boolean readVoices() {
            for (int p = 0; p < MOST_PEOPLE; p++) {
                names[p] = NONE;
            }
            for (int n = 0; n < TAPE_BYTES && kind != FINISH; n++) {
                if (!isNumber(0, people - 1)) {
                    return false;
                }
                int who = value;
                if (who >= MOST_PEOPLE || names[who] != NONE) {
                    return refuse(CANT_BE);
                }
                forward();
                if (!skip(NAMES) || !isNumber(0, people - 1)) {
                    return false;
                }
                if (value == who) {
                    return refuse(CANT_BE);
                }
                names[who] = value;
                forward();
                if (!skip(';')) {
                    return false;
                }
            }
            return true;
        }

        private boolean readWorks() {
            works.count = 0;
            for (int n = 0; n < TAPE_BYTES && kind != FINISH; n++) {
                if (kind != WORK) {
                    return refuse(CANT_STAND);
                }
                if (works.count >= MOST_WORKS) {
                    return refuse(TOO_MANY);
                }
                boolean read = readEntry(WORK, works.owner, 0, people - 1)
                        && readEntry(FOR, works.hours, 1, DAY)
                        && readEntry(WORTH, works.worth, 0, 99)
                        && readEntry(DUST, works.dust, 0, 9)
                        && readEntry(WAX, works.wax, 0, 9)
                        && readAfter() && skip(';');
                if (!read) {
                    return false;
                }
                works.count++;
            }
            return true;
        }

        private boolean readEntry(int word, int[] row, int least, int greatest) {
            if (!skip(word) || !isNumber(least, greatest)) {
                return false;
            }
            if (works.count < row.length) {
                row[works.count] = value;
            }
            forward();
            return true;
        }

        private boolean readAfter() {
            int i = works.count;
            works.behind[i] = NONE;
            if (kind != AFTER) {
                return true;
            }
            forward();
            if (!isNumber(0, i - 1)) {
                return false;
            }
            if (works.owner[value] != works.owner[i]) {
                return refuse(CANT_BE);
            }
            works.behind[i] = value;
            forward();
            return true;
        }
    }
}
