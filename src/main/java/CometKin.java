/**
 * Families that are counted from comet to comet: what is told of them in texts, the years and deeds
 * that follow, and what can be foretold. What each call answers is told, promise by promise, in DOC.md.
 */
public final class CometKin {
    public static final int NONE = -1, UNKNOWN = -2, OUTSIDE = -3, NOT = -4, FULL = -5;

    private static final int LAST_YEAR = 99;
    private static final int MOST_PEOPLE = 9;
    private static final int MOST_COMETS = 6;
    private static final int MOST_LETTERS = 160;
    private static final int MOST_CLAUSES = 14;
    private static final int MOST_DEBTS = 8;
    private static final int MOST_FEASTS = 8;
    private static final int MOST_UNDONE = 8;
    private static final int MOST_KEPT = 2;
    private static final int MOST_OWED = 99;
    private static final int MOST_GOLD_TOLD = 99;
    private static final int MOST_LAW = 6;
    private static final int LAW_AT_FIRST = 2;
    private static final int TENTHS = 10;

    private static final int PLAIN = 0, SEER = 1, WIDOW = 2;
    private static final int TRUE = 0, CLOUDED = 1, FALSE = 2, ECLIPSED = 3;

    /** Of each kind that one can be taken as, the kind over it: ONE, PLAIN, SEER, WIDOW. */
    private static final int[] OVER_PEOPLE = {NONE, 0, 0, 1};
    /** Of each kind that a comet can be taken as, the kind over it: LIGHT, TRUE, CLOUDED, FALSE, ECLIPSED. */
    private static final int[] OVER_COMETS = {NONE, 0, 1, 0, 1};

    private static final int PLAIN_SIGHT = 1, SEER_SIGHT = 2;

    private final Text text;
    private final Country told;
    /** A country that may be changed to try what would be; no call finds in it what an earlier one left. */
    private final Country draft;
    private final Life now;
    private final Shelf past;
    private int nextPast;
    private int undoable;
    private final Shelf kept;
    private int keptPlaces;
    private final Feasts feasts;
    /** Whom each one may marry now, by bits; found anew by each call that asks for weddings. */
    private final Row matches;

    public CometKin() {
        text = new Text();
        told = new Country();
        draft = new Country();
        now = new Life();
        past = new Shelf(MOST_UNDONE);
        kept = new Shelf(MOST_KEPT);
        feasts = new Feasts();
        matches = new Row(MOST_PEOPLE);
        nextPast = 0;
        undoable = 0;
        keptPlaces = 0;
    }

    // ---- what is told

    public int write(int letter) {
        if (letter < 0 || letter > 255) {
            return OUTSIDE;
        }
        return text.append(letter) ? text.length : FULL;
    }

    public int erase() {
        return text.clear();
    }

    public int fault() {
        draft.copyFrom(told);
        text.readInto(draft);
        return text.faultPlace;
    }

    public int land() {
        draft.copyFrom(told);
        text.readInto(draft);
        if (text.faultPlace != NONE) {
            return NOT;
        }
        told.copyFrom(draft);
        text.clear();
        now.beginIn(told);
        feasts.clear();
        keptPlaces = 0;
        undoable = 0;
        return text.clauses;
    }

    public int one(int one, int what) {
        if (!told.hasOne(one)) {
            return UNKNOWN;
        }
        switch (what) {
            case 0: return told.kind.get(one);
            case 1: return told.born.get(one);
            case 2: return told.mother.get(one);
            case 3: return told.father.get(one);
            case 4: return now.gold.get(one);
            case 5: return has(now.living, one) ? 1 : 0;
            case 6: return now.married.get(one);
            default: return OUTSIDE;
        }
    }

    public int comet(int comet, int what) {
        if (!told.hasComet(comet)) {
            return UNKNOWN;
        }
        switch (what) {
            case 0: return told.cometKind.get(comet);
            case 1: return told.cometYear.get(comet);
            case 2: return has(told.cancelled, comet) ? 1 : 0;
            case 3: return told.whoSees(comet);
            default: return OUTSIDE;
        }
    }

    public int as(int one, int kind) {
        if (!told.hasOne(one)) {
            return UNKNOWN;
        }
        if (kind < 0 || kind >= OVER_PEOPLE.length) {
            return OUTSIDE;
        }
        return isSuch(told.kind.get(one) + 1, kind, OVER_PEOPLE) ? told.seenBy(one) : NOT;
    }

    public int cometAs(int comet, int kind) {
        if (!told.hasComet(comet)) {
            return UNKNOWN;
        }
        if (kind < 0 || kind >= OVER_COMETS.length) {
            return OUTSIDE;
        }
        int own = told.cometKind.get(comet);
        return isSuch(own + 1, kind, OVER_COMETS) ? sightOf(own) : NOT;
    }

    public int degree(int one, int other, int year) {
        if (!told.hasOne(one) || !told.hasOne(other)) {
            return UNKNOWN;
        }
        return isYear(year) ? told.degreeOf(one, other, year) : OUTSIDE;
    }

    public int kin(int one, int year) {
        if (!told.hasOne(one)) {
            return UNKNOWN;
        }
        return isYear(year) ? told.kinOf(one, year) : OUTSIDE;
    }

    // ---- years, deeds

    public int go(int n) {
        if (n < 1 || n > LAST_YEAR) {
            return OUTSIDE;
        }
        if (now.year + n > LAST_YEAR) {
            return FULL;
        }
        remember();
        now.year += n;
        return now.year;
    }

    public int may(int one, int other) {
        if (!told.hasTwo(one, other)) {
            return UNKNOWN;
        }
        return mayMarry(one, other) ? 1 : 0;
    }

    public int wed(int one, int other) {
        if (!told.hasTwo(one, other)) {
            return UNKNOWN;
        }
        if (!mayMarry(one, other)) {
            return NOT;
        }
        remember();
        now.married.set(one, other);
        now.married.set(other, one);
        return marriages();
    }

    public int die(int one) {
        if (!told.hasOne(one)) {
            return UNKNOWN;
        }
        if (!has(now.living, one) || told.born.get(one) > now.year) {
            return NOT;
        }
        remember();
        int estate = now.gold.get(one);
        int spouse = now.married.get(one);
        now.bury(one);
        if (told.kind.get(spouse) == WIDOW) {
            now.addGold(spouse, estate / 2);
            estate -= estate / 2;
        }
        return shareOut(estate, nearestLiving(one));
    }

    public int owe(int one, int other, int n) {
        if (!told.hasTwo(one, other)) {
            return UNKNOWN;
        }
        if (n < 1 || n > MOST_OWED) {
            return OUTSIDE;
        }
        if (!bothLive(one, other)) {
            return NOT;
        }
        if (now.debts >= MOST_DEBTS) {
            return FULL;
        }
        remember();
        return now.addDebt(one, other, n);
    }

    public int debt(int debt, int what) {
        if (!now.hasDebt(debt)) {
            return UNKNOWN;
        }
        switch (what) {
            case 0: return now.debtor.get(debt);
            case 1: return now.creditor.get(debt);
            case 2: return now.owed.get(debt);
            case 3: return now.since.get(debt);
            case 4: return dueYear(debt);
            case 5: return has(now.paid, debt) ? 1 : 0;
            default: return OUTSIDE;
        }
    }

    public int pay(int debt) {
        if (!now.hasDebt(debt)) {
            return UNKNOWN;
        }
        if (!canBePaid(debt)) {
            return NOT;
        }
        remember();
        int debtor = now.debtor.get(debt);
        now.paid |= bit(debt);
        now.addGold(debtor, -now.owed.get(debt));
        now.addGold(now.creditor.get(debt), now.owed.get(debt));
        return now.gold.get(debtor);
    }

    public int undo() {
        if (undoable == 0) {
            return NOT;
        }
        nextPast = (nextPast + MOST_UNDONE - 1) % MOST_UNDONE;
        past.fetch(nextPast, now);
        undoable--;
        return undoable;
    }

    public int keep(int k) {
        if (k < 0 || k >= MOST_KEPT) {
            return UNKNOWN;
        }
        kept.store(k, now);
        keptPlaces |= bit(k);
        return now.year;
    }

    public int back(int k) {
        if (k < 0 || k >= MOST_KEPT) {
            return UNKNOWN;
        }
        if (!has(keptPlaces, k)) {
            return NOT;
        }
        kept.fetch(k, now);
        undoable = 0;
        return now.year;
    }

    // ---- foretold

    public int first(int one, int other, int degree) {
        if (!told.hasTwo(one, other)) {
            return UNKNOWN;
        }
        if (degree < 0 || degree > MOST_PEOPLE) {
            return OUTSIDE;
        }
        for (int year = now.year; year <= LAST_YEAR; year++) {
            if (areKinWithin(one, other, degree, year)) {
                return year;
            }
        }
        return NONE;
    }

    public int last(int one, int other) {
        if (!told.hasTwo(one, other)) {
            return UNKNOWN;
        }
        for (int year = LAST_YEAR; year >= now.year; year--) {
            if (!areKinWithin(one, other, told.law, year)) {
                return year;
            }
        }
        return NONE;
    }

    public int bestBorn(int mother, int father, int year, int what) {
        if (!told.hasTwo(mother, father)) {
            return UNKNOWN;
        }
        if (!isYear(year) || what < 0 || what > 1) {
            return OUTSIDE;
        }
        if (told.people >= MOST_PEOPLE) {
            return FULL;
        }
        // an earlier birth counts whenever a later one does: no year can be better than the first
        int birth = Math.max(now.year, Math.max(told.born.get(mother), told.born.get(father)));
        if (birth > year) {
            return NONE;
        }
        return what == 0 ? birth : livingKinOfChild(mother, father, birth, year);
    }

    public int weddings(int what) {
        if (what < 0 || what > 2) {
            return OUTSIDE;
        }
        findMatches();
        int most = mostPairs(matches, lowest(told.people), 0);
        if (what == 0) {
            return most;
        }
        for (int one = 0; one < told.people; one++) {
            int other = firstPartner(one, most);
            if (other != NONE) {
                return what == 1 ? one : other;
            }
        }
        return NONE;
    }

    public int makes(int what) {
        if (what < 0 || what > 1) {
            return OUTSIDE;
        }
        int best = NONE;
        int most = NONE;
        int pairs = told.pairsOfKin(now.year);
        for (int comet = 0; comet < told.comets; comet++) {
            draft.copyFrom(told);
            draft.dropComet(comet);
            int fewer = pairs - draft.pairsOfKin(now.year);
            if (fewer > 0 && fewer > most) {
                most = fewer;
                best = comet;
            }
        }
        return what == 0 ? best : most;
    }

    public int feasted(int one, int other, int year, int is) {
        if (!told.hasTwo(one, other)) {
            return UNKNOWN;
        }
        if (!isYear(year) || is < 0 || is > 1) {
            return OUTSIDE;
        }
        return feasts.add(one, other, year, is) ? feasts.held : FULL;
    }

    public int forget() {
        return feasts.clear();
    }

    public int truths(int what) {
        if (what < 0 || what > 1) {
            return OUTSIDE;
        }
        weighFeasts();
        return what == 0 ? feasts.truths : feasts.alwaysOfOneKind();
    }

    public int truth(int comet) {
        if (!told.hasComet(comet)) {
            return UNKNOWN;
        }
        weighFeasts();
        return feasts.truths == 0 ? NONE : feasts.firstTruth.get(comet);
    }

    public long left(int one, int n, int p, int part) {
        if (!told.hasOne(one)) {
            return UNKNOWN;
        }
        if (n < 0 || n >= MOST_PEOPLE || p < 0 || p > TENTHS || part < 0 || part > 1) {
            return OUTSIDE;
        }
        int kin = Integer.bitCount(told.kinOf(one, now.year) & now.living);
        long above = 0;
        for (int alive = n; alive <= kin; alive++) {
            above += waysToChoose(alive, kin) * power(TENTHS - p, alive) * power(p, kin - alive);
        }
        long below = power(TENTHS, kin);
        long common = commonDivisor(below, above);
        if (common <= 0) {
            return NONE;
        }
        return (part == 0 ? above : below) / common;
    }

    public int count(int what) {
        switch (what) {
            case 0: return told.people;
            case 1: return told.comets;
            case 2: return now.year;
            case 3: return told.law;
            case 4: return now.living;
            case 5: return marriages();
            case 6: return now.goldOfAll(told.people);
            case 7: return now.debts;
            case 8: return told.pairsOfKin(now.year);
            case 9: return feasts.held;
            case 10: return undoable;
            case 11: return text.length;
            default: return OUTSIDE;
        }
    }

    // ---- what the calls above share

    private static boolean isYear(int year) {
        return year >= 0 && year <= LAST_YEAR;
    }

    /** The bit of a place; of NONE there is none. */
    private static int bit(int place) {
        return place >= 0 && place < 31 ? 1 << place : 0;
    }

    private static boolean has(int bits, int place) {
        return place >= 0 && place < 31 && (bits >> place & 1) != 0;
    }

    /** The lowest places, so many, by bits. */
    private static int lowest(int places) {
        return bit(places) - 1;
    }

    private static boolean isSuch(int kind, int asked, int[] over) {
        int up = kind;
        for (int steps = 0; steps < over.length && up >= 0 && up < over.length; steps++) {
            if (up == asked) {
                return true;
            }
            up = over[up];
        }
        return false;
    }

    /** Who sees a comet of a kind that is not cancelled. */
    private static int sightOf(int cometKind) {
        switch (cometKind) {
            case TRUE: return PLAIN_SIGHT | SEER_SIGHT;
            case CLOUDED: return SEER_SIGHT;
            case FALSE: return PLAIN_SIGHT;
            default: return 0;
        }
    }

    /** Must be called ahead of each change by a deed, for undo(). */
    private void remember() {
        past.store(nextPast, now);
        nextPast = (nextPast + 1) % MOST_UNDONE;
        undoable = Math.min(undoable + 1, MOST_UNDONE);
    }

    private boolean bothLive(int one, int other) {
        return has(now.living, one) && has(now.living, other);
    }

    private boolean areKinWithin(int one, int other, int most, int year) {
        int degree = told.degreeOf(one, other, year);
        return degree != NONE && degree <= most;
    }

    private boolean isFree(int one) {
        return has(now.living, one) && told.born.get(one) <= now.year && now.married.get(one) == NONE;
    }

    private boolean mayMarry(int one, int other) {
        return isFree(one) && isFree(other) && !areKinWithin(one, other, told.law, now.year);
    }

    private int marriages() {
        int married = 0;
        for (int one = 0; one < told.people; one++) {
            if (now.married.get(one) != NONE) {
                married++;
            }
        }
        return married / 2;
    }

    /** Those who live and are kin to one who died, at the least degree that any of these has, by bits. */
    private int nearestLiving(int one) {
        int least = NONE;
        int nearest = 0;
        for (int other = 0; other < told.people; other++) {
            int degree = has(now.living, other) ? told.degreeOf(one, other, now.year) : NONE;
            if (degree != NONE && (least == NONE || degree < least)) {
                least = degree;
                nearest = 0;
            }
            if (degree != NONE && degree == least) {
                nearest |= bit(other);
            }
        }
        return nearest;
    }

    private int shareOut(int estate, int heirs) {
        int parts = Integer.bitCount(heirs);
        if (parts == 0) {
            return 0;
        }
        for (int heir = 0; heir < told.people; heir++) {
            if (has(heirs, heir)) {
                now.addGold(heir, estate / parts);
            }
        }
        return parts;
    }

    private int dueYear(int debt) {
        int seen = told.seenBy(now.debtor.get(debt)) & told.seenBy(now.creditor.get(debt));
        return told.secondYear(seen, now.since.get(debt));
    }

    private boolean canBePaid(int debt) {
        int due = dueYear(debt);
        int debtor = now.debtor.get(debt);
        return !has(now.paid, debt) && due != NONE && due <= now.year
            && bothLive(debtor, now.creditor.get(debt))
            && now.gold.get(debtor) >= now.owed.get(debt);
    }

    /** To how many who live now one more, born in a year, would be kin in another. */
    private int livingKinOfChild(int mother, int father, int birth, int year) {
        draft.copyFrom(told);
        int child = draft.addOne(PLAIN, birth);
        draft.setParents(child, mother, father);
        return Integer.bitCount(draft.kinOf(child, year) & now.living);
    }

    private void findMatches() {
        matches.fill(0);
        for (int one = 0; one < told.people; one++) {
            for (int other = one + 1; other < told.people; other++) {
                if (mayMarry(one, other)) {
                    matches.set(one, matches.get(one) | bit(other));
                }
            }
        }
    }

    /** The least one above with whom one can begin the most pairs, nobody below marrying. */
    private int firstPartner(int one, int most) {
        int above = lowest(told.people) & ~lowest(one + 1);
        for (int other = one + 1; other < told.people; other++) {
            if (has(matches.get(one), other) && 1 + mostPairs(matches, above & ~bit(other), 0) == most) {
                return other;
            }
        }
        return NONE;
    }

    /** The most pairs among those free; each pair stands with its lesser one in matches. */
    private static int mostPairs(Row matches, int free, int depth) {
        int most = 0;
        int limit = Integer.bitCount(free) / 2;
        if (limit == 0 || depth > MOST_PEOPLE) {
            return 0;
        }
        int one = leastOf(free);
        int others = free & ~bit(one);
        for (int other = one + 1; other < MOST_PEOPLE && most < limit; other++) {
            if (has(matches.get(one) & others, other)) {
                most = Math.max(most, 1 + mostPairs(matches, others & ~bit(other), depth + 1));
            }
        }
        return most < limit ? Math.max(most, mostPairs(matches, others, depth + 1)) : most;
    }

    private static int leastOf(int people) {
        for (int one = 0; one < MOST_PEOPLE; one++) {
            if (has(people, one)) {
                return one;
            }
        }
        return NONE;
    }

    private void weighFeasts() {
        draft.copyFrom(told);
        feasts.weigh(draft);
    }

    private static long waysToChoose(int some, int all) {
        long ways = 1;
        for (int chosen = 1; chosen <= some; chosen++) {
            ways = ways * (all - some + chosen) / chosen;
        }
        return ways;
    }

    private static long power(int base, int exponent) {
        long power = 1;
        for (int times = 0; times < exponent; times++) {
            power *= base;
        }
        return power;
    }

    private static long commonDivisor(long one, long other) {
        long divisor = one;
        long rest = other;
        for (int steps = 0; steps < 200 && rest > 0; steps++) {
            long next = divisor % rest;
            divisor = rest;
            rest = next;
        }
        return divisor;
    }

    /** A row of numbers that is never read or changed beyond its ends; beyond them it holds NONE. */
    private static final class Row {
        private final int[] cells;

        Row(int length) {
            cells = new int[Math.max(length, 0)];
        }

        int get(int place) {
            return place >= 0 && place < cells.length ? cells[place] : NONE;
        }

        void set(int place, int value) {
            if (place >= 0 && place < cells.length) {
                cells[place] = value;
            }
        }

        void add(int place, int more) {
            set(place, get(place) + more);
        }

        void fill(int value) {
            for (int place = 0; place < cells.length; place++) {
                cells[place] = value;
            }
        }

        void copyFrom(Row other) {
            for (int place = 0; place < cells.length; place++) {
                cells[place] = other.get(place);
            }
        }
    }

    /** What texts have told: people, comets, the law; who sees what by it, and who is kin to whom by when. */
    private static final class Country {
        int people;
        int comets;
        int law;
        final Row kind;
        final Row born;
        final Row mother;
        final Row father;
        final Row toldGold;
        final Row cometKind;
        final Row cometYear;
        int seers;
        int cancelled;
        int plainSees;
        int seerSees;

        Country() {
            kind = new Row(MOST_PEOPLE);
            born = new Row(MOST_PEOPLE);
            mother = new Row(MOST_PEOPLE);
            father = new Row(MOST_PEOPLE);
            toldGold = new Row(MOST_PEOPLE);
            cometKind = new Row(MOST_COMETS);
            cometYear = new Row(MOST_COMETS);
            law = LAW_AT_FIRST;
        }

        void copyFrom(Country other) {
            people = other.people;
            comets = other.comets;
            law = other.law;
            kind.copyFrom(other.kind);
            born.copyFrom(other.born);
            mother.copyFrom(other.mother);
            father.copyFrom(other.father);
            toldGold.copyFrom(other.toldGold);
            cometKind.copyFrom(other.cometKind);
            cometYear.copyFrom(other.cometYear);
            seers = other.seers;
            cancelled = other.cancelled;
            plainSees = other.plainSees;
            seerSees = other.seerSees;
        }

        void clear() {
            people = 0;
            seers = 0;
            law = LAW_AT_FIRST;
            comets = 0;
        }

        boolean hasOne(int one) {
            return one >= 0 && one < people;
        }

        boolean hasTwo(int one, int other) {
            return hasOne(one) && hasOne(other) && one != other;
        }

        boolean hasComet(int comet) {
            return comet >= 0 && comet < comets;
        }

        int addOne(int ofKind, int year) {
            int one = people;
            people++;
            kind.set(one, ofKind);
            born.set(one, year);
            toldGold.set(one, 0);
            setParents(one, NONE, NONE);
            seers = ofKind == SEER ? seers | bit(one) : seers;
            return one;
        }

        void setParents(int child, int itsMother, int itsFather) {
            mother.set(child, itsMother);
            father.set(child, itsFather);
        }

        /** Who sees what is not found anew by this: findCancelled() and findSight() do that. */
        void addComet(int ofKind, int year) {
            cometKind.set(comets, ofKind);
            cometYear.set(comets, year);
            comets++;
        }

        /** The comets behind move up; they keep their order, by year and by number. */
        void dropComet(int comet) {
            for (int place = comet; place < comets; place++) {
                cometKind.set(place, cometKind.get(place + 1));
                cometYear.set(place, cometYear.get(place + 1));
            }
            comets--;
            findCancelled();
            findSight();
        }

        void findCancelled() {
            cancelled = 0;
            for (int comet = 0; comet < comets; comet++) {
                if (cometKind.get(comet) == ECLIPSED) {
                    cancelled |= bit(latestAheadOf(comet));
                }
            }
        }

        private int latestAheadOf(int eclipse) {
            int latest = NONE;
            for (int comet = 0; comet < comets; comet++) {
                if (cometKind.get(comet) != ECLIPSED && isAhead(comet, eclipse)
                        && (latest == NONE || isAhead(latest, comet))) {
                    latest = comet;
                }
            }
            return latest;
        }

        private boolean isAhead(int comet, int other) {
            int years = Integer.compare(cometYear.get(comet), cometYear.get(other));
            return years < 0 || years == 0 && comet < other;
        }

        void findSight() {
            plainSees = 0;
            seerSees = 0;
            for (int comet = 0; comet < comets; comet++) {
                int sight = has(cancelled, comet) ? 0 : sightOf(cometKind.get(comet));
                plainSees |= (sight & PLAIN_SIGHT) != 0 ? bit(comet) : 0;
                seerSees |= (sight & SEER_SIGHT) != 0 ? bit(comet) : 0;
            }
        }

        int seenBy(int one) {
            return has(seers, one) ? seerSees : plainSees;
        }

        int whoSees(int comet) {
            int others = lowest(people) & ~seers;
            return (has(seerSees, comet) ? seers : 0) | (has(plainSees, comet) ? others : 0);
        }

        /** The year of the latest of these comets that is not later than a year; NONE. */
        private int latestYear(int these, int year) {
            int latest = NONE;
            for (int comet = 0; comet < comets; comet++) {
                int its = cometYear.get(comet);
                if (has(these, comet) && its <= year && its > latest) {
                    latest = its;
                }
            }
            return latest;
        }

        /** The year of the second of these comets, of those later than a year; NONE. */
        int secondYear(int these, int year) {
            int first = NONE;
            int second = NONE;
            for (int comet = 0; comet < comets; comet++) {
                int its = cometYear.get(comet);
                if (!has(these, comet) || its <= year) {
                    continue;
                }
                if (first == NONE || its < first) {
                    second = first;
                    first = its;
                } else if (second == NONE || its < second) {
                    second = its;
                }
            }
            return second;
        }

        /** These and all who are one step away, by births not later than the latest comet. */
        private int stepFrom(int these, int latest) {
            int reached = these;
            for (int child = 0; child < people; child++) {
                int parents = bit(mother.get(child)) | bit(father.get(child));
                if (parents == 0 || born.get(child) > latest) {
                    continue;
                }
                if (has(these, child)) {
                    reached |= parents;
                }
                if ((these & parents) != 0) {
                    reached |= bit(child);
                }
            }
            return reached;
        }

        private int allReached(int one, int latest) {
            int reached = bit(one);
            for (int steps = 0; steps < people; steps++) {
                int next = stepFrom(reached, latest);
                if (next == reached) {
                    return reached;
                }
                reached = next;
            }
            return reached;
        }

        /**
         * The fewest steps from one to the other, by births that count; NONE. A birth counts just when the latest
         * comet that both see by that year is not ahead of it, so that one year tells which births count.
         */
        int degreeOf(int one, int other, int year) {
            int latest = latestYear(seenBy(one) & seenBy(other), year);
            int reached = bit(one);
            for (int steps = 0; steps < people; steps++) {
                if (has(reached, other)) {
                    return steps;
                }
                int next = stepFrom(reached, latest);
                if (next == reached) {
                    return NONE;
                }
                reached = next;
            }
            return NONE;
        }

        /** All others who are kin to one: with all seers he sees the same comets, with all not seers too. */
        int kinOf(int one, int year) {
            int withSeers = allReached(one, latestYear(seenBy(one) & seerSees, year));
            int withOthers = allReached(one, latestYear(seenBy(one) & plainSees, year));
            return (withSeers & seers | withOthers & ~seers) & ~bit(one);
        }

        int pairsOfKin(int year) {
            int twice = 0;
            for (int one = 0; one < people; one++) {
                twice += Integer.bitCount(kinOf(one, year));
            }
            return twice / 2;
        }

        /** The comets, each of which would alone make two kin in a year, did both see it; by bits. */
        int makersOfKin(int one, int other, int year) {
            int makers = 0;
            for (int comet = 0; comet < comets; comet++) {
                int its = cometYear.get(comet);
                if (its <= year && has(allReached(one, its), other)) {
                    makers |= bit(comet);
                }
            }
            return makers;
        }
    }

    /** The text, and the reading of it: each clause is done to a draft, up to the first fault. */
    private static final class Text {
        private static final int COMET = 0, CLOUD = 1, SPARK = 2, ECLIPSE = 3;
        private static final int CHILD = 4, SEER_WORD = 5, WIDOW_WORD = 6;
        private static final int OF = 7, TO = 8, GOLD = 9, LAW = 10, LAND = 11, DARK = 12;
        private static final int WORDS = 13;
        private static final int BLANK = 32;

        private final Row letters;
        int length;
        private int place;
        int faultPlace;
        int clauses;

        Text() {
            letters = new Row(MOST_LETTERS);
            length = 0;
        }

        boolean append(int letter) {
            if (length >= MOST_LETTERS) {
                return false;
            }
            letters.set(length, letter);
            length++;
            return true;
        }

        /** How many letters there were. */
        int clear() {
            int had = length;
            length = 0;
            return had;
        }

        /** What a faulty text leaves in the draft is of no use. */
        void readInto(Country draft) {
            place = 0;
            faultPlace = NONE;
            clauses = 0;
            boolean more = true;
            while (more && clauses < MOST_CLAUSES) {
                readClause(draft);
                clauses++;
                more = readSeparator();
            }
            draft.findCancelled();
            draft.findSight();
        }

        /** Whether one more clause must follow. */
        private boolean readSeparator() {
            skipBlanks();
            if (faultPlace != NONE || place >= length) {
                return false;
            }
            if (letters.get(place) != ';' || clauses == MOST_CLAUSES) {
                faultPlace = place;
                return false;
            }
            place++;
            return true;
        }

        private void readClause(Country draft) {
            int word = readWord(draft);
            switch (word) {
                case COMET: case CLOUD: case SPARK: case ECLIPSE:
                    draft.addComet(cometKindOf(word), readNumber(LAST_YEAR, NONE));
                    break;
                case CHILD: case SEER_WORD: case WIDOW_WORD:
                    draft.addOne(kindOf(word), readNumber(LAST_YEAR, NONE));
                    break;
                case OF: case TO:
                    readParents(draft, word == OF);
                    break;
                case GOLD:
                    int owner = readNumber(draft.people - 1, NONE);
                    draft.toldGold.set(owner, readNumber(MOST_GOLD_TOLD, NONE));
                    break;
                case LAW:
                    draft.law = readNumber(MOST_LAW, NONE);
                    break;
                case LAND:
                    draft.clear();
                    break;
                case DARK:
                    draft.comets = 0;
                    break;
                default:
                    break;
            }
        }

        private static int cometKindOf(int word) {
            switch (word) {
                case CLOUD: return CLOUDED;
                case SPARK: return FALSE;
                case ECLIPSE: return ECLIPSED;
                default: return TRUE;
            }
        }

        private static int kindOf(int word) {
            switch (word) {
                case SEER_WORD: return SEER;
                case WIDOW_WORD: return WIDOW;
                default: return PLAIN;
            }
        }

        private void readParents(Country draft, boolean both) {
            int child = readNumber(draft.people - 1, NONE);
            int mother = readNumber(child - 1, NONE);
            int father = both ? readNumber(child - 1, mother) : NONE;
            draft.setParents(child, mother, father);
        }

        /** The word with which a clause begins; NONE, with a fault at it, if it cannot stand there. */
        private int readWord(Country draft) {
            skipBlanks();
            int start = place;
            while (place < length && isWithin(letters.get(place), 'a', 'z')) {
                place++;
            }
            for (int word = 0; word < WORDS; word++) {
                if (isSpelled(spelling(word), start) && canStand(word, draft)) {
                    return word;
                }
            }
            faultPlace = start;
            return NONE;
        }

        private static boolean canStand(int word, Country draft) {
            switch (word) {
                case COMET: case CLOUD: case SPARK: case ECLIPSE:
                    return draft.comets < MOST_COMETS;
                case CHILD: case SEER_WORD: case WIDOW_WORD:
                    return draft.people < MOST_PEOPLE;
                default:
                    return true;
            }
        }

        private static String spelling(int word) {
            switch (word) {
                case COMET: return "comet";
                case CLOUD: return "cloud";
                case SPARK: return "spark";
                case ECLIPSE: return "eclipse";
                case CHILD: return "child";
                case SEER_WORD: return "seer";
                case WIDOW_WORD: return "widow";
                case OF: return "of";
                case TO: return "to";
                case GOLD: return "gold";
                case LAW: return "law";
                case LAND: return "land";
                default: return "dark";
            }
        }

        /** Whether the letters from start up to the place reached are this word. */
        private boolean isSpelled(String word, int start) {
            if (word.length() != place - start) {
                return false;
            }
            for (int index = 0; index < word.length(); index++) {
                if (word.charAt(index) != letters.get(start + index)) {
                    return false;
                }
            }
            return true;
        }

        /** A number from 0 to most, but not a told one; NONE behind a fault, or with a fault at it. */
        private int readNumber(int most, int butNot) {
            if (faultPlace != NONE) {
                return NONE;
            }
            skipBlanks();
            int start = place;
            int number = 0;
            while (place < length && isWithin(letters.get(place), '0', '9')) {
                number = number * 10 + letters.get(place) - '0';
                place++;
            }
            int digits = place - start;
            if (digits < 1 || digits > 2 || number > most || number == butNot) {
                faultPlace = start;
                return NONE;
            }
            return number;
        }

        private void skipBlanks() {
            while (place < length && letters.get(place) == BLANK) {
                place++;
            }
        }

        private static boolean isWithin(int letter, char from, char to) {
            return letter >= from && letter <= to;
        }
    }

    /** All that years and deeds change: what is kept, and what undo() brings again. */
    private static final class Life {
        int year;
        int living;
        int debts;
        int paid;
        final Row married;
        final Row gold;
        final Row debtor;
        final Row creditor;
        final Row owed;
        final Row since;

        Life() {
            married = new Row(MOST_PEOPLE);
            gold = new Row(MOST_PEOPLE);
            debtor = new Row(MOST_DEBTS);
            creditor = new Row(MOST_DEBTS);
            owed = new Row(MOST_DEBTS);
            since = new Row(MOST_DEBTS);
        }

        void beginIn(Country told) {
            year = 0;
            living = lowest(told.people);
            debts = 0;
            paid = 0;
            married.fill(NONE);
            gold.copyFrom(told.toldGold);
        }

        void copyFrom(Life other) {
            year = other.year;
            living = other.living;
            debts = other.debts;
            paid = other.paid;
            married.copyFrom(other.married);
            gold.copyFrom(other.gold);
            debtor.copyFrom(other.debtor);
            creditor.copyFrom(other.creditor);
            owed.copyFrom(other.owed);
            since.copyFrom(other.since);
        }

        boolean hasDebt(int debt) {
            return debt >= 0 && debt < debts;
        }

        int addDebt(int one, int other, int much) {
            int debt = debts;
            debts++;
            debtor.set(debt, one);
            creditor.set(debt, other);
            owed.set(debt, much);
            since.set(debt, year);
            return debt;
        }

        void addGold(int one, int more) {
            gold.add(one, more);
        }

        int goldOfAll(int people) {
            int all = 0;
            for (int one = 0; one < people && one < MOST_PEOPLE; one++) {
                all += gold.get(one);
            }
            return all;
        }

        /** One lives no more, is married no more and has nothing. */
        void bury(int one) {
            living &= ~bit(one);
            married.set(married.get(one), NONE);
            married.set(one, NONE);
            gold.set(one, 0);
        }
    }

    /** Places in which lives are kept. */
    private static final class Shelf {
        private final Life[] lives;

        Shelf(int places) {
            lives = new Life[Math.max(places, 0)];
            for (int place = 0; place < lives.length; place++) {
                lives[place] = new Life();
            }
        }

        private Life at(int place) {
            return place >= 0 && place < lives.length ? lives[place] : null;
        }

        void store(int place, Life life) {
            Life its = at(place);
            if (its != null) {
                its.copyFrom(life);
            }
        }

        void fetch(int place, Life life) {
            Life its = at(place);
            if (its != null) {
                life.copyFrom(its);
            }
        }
    }

    /** Who feasted with whom, and the truths about the comets that fit. */
    private static final class Feasts {
        private static final int KINDS_IN_DOUBT = 3;

        int held;
        private final Row one;
        private final Row other;
        private final Row year;
        private final Row wereKin;
        /** The comets, each of which makes the two of a feast kin, if both see it; by bits. */
        private final Row makers;
        int truths;
        final Row firstTruth;
        /** Of each kind, the comets that are of it in any truth, by bits. */
        private final Row everOf;
        private int comets;

        Feasts() {
            one = new Row(MOST_FEASTS);
            other = new Row(MOST_FEASTS);
            year = new Row(MOST_FEASTS);
            wereKin = new Row(MOST_FEASTS);
            makers = new Row(MOST_FEASTS);
            firstTruth = new Row(MOST_COMETS);
            everOf = new Row(ECLIPSED + 1);
        }

        boolean add(int oneOfTwo, int otherOfTwo, int inYear, int is) {
            if (held >= MOST_FEASTS) {
                return false;
            }
            one.set(held, oneOfTwo);
            other.set(held, otherOfTwo);
            year.set(held, inYear);
            wereKin.set(held, is);
            held++;
            return true;
        }

        /** How many there were. */
        int clear() {
            int had = held;
            held = 0;
            return had;
        }

        /** Finds all truths, in their order; the draft's comets change. */
        void weigh(Country draft) {
            truths = 0;
            comets = draft.comets;
            everOf.fill(0);
            for (int feast = 0; feast < held; feast++) {
                makers.set(feast, draft.makersOfKin(one.get(feast), other.get(feast), year.get(feast)));
            }
            int ways = waysOf(draft);
            for (int way = 0; way < ways; way++) {
                tryWay(draft, way);
                if (allFit(draft)) {
                    takeTruth(draft);
                }
            }
        }

        private static int waysOf(Country draft) {
            int ways = 1;
            for (int comet = 0; comet < draft.comets; comet++) {
                ways *= draft.cometKind.get(comet) == ECLIPSED ? 1 : KINDS_IN_DOUBT;
            }
            return ways;
        }

        /** The last comet changes first, so that the ways come by comets, in their order. */
        private static void tryWay(Country draft, int way) {
            int rest = way;
            for (int comet = draft.comets - 1; comet >= 0; comet--) {
                if (draft.cometKind.get(comet) != ECLIPSED) {
                    draft.cometKind.set(comet, rest % KINDS_IN_DOUBT);
                    rest /= KINDS_IN_DOUBT;
                }
            }
            draft.findSight();
        }

        private boolean allFit(Country draft) {
            for (int feast = 0; feast < held; feast++) {
                int seen = draft.seenBy(one.get(feast)) & draft.seenBy(other.get(feast));
                int kin = (seen & makers.get(feast)) != 0 ? 1 : 0;
                if (kin != wereKin.get(feast)) {
                    return false;
                }
            }
            return true;
        }

        private void takeTruth(Country draft) {
            if (truths == 0) {
                firstTruth.copyFrom(draft.cometKind);
            }
            truths++;
            for (int comet = 0; comet < comets; comet++) {
                int kind = draft.cometKind.get(comet);
                everOf.set(kind, everOf.get(kind) | bit(comet));
            }
        }

        int alwaysOfOneKind() {
            int always = 0;
            for (int comet = 0; comet < comets; comet++) {
                int kinds = 0;
                for (int kind = TRUE; kind <= ECLIPSED; kind++) {
                    kinds += has(everOf.get(kind), comet) ? 1 : 0;
                }
                always |= kinds == 1 ? bit(comet) : 0;
            }
            return always;
        }
    }
}
