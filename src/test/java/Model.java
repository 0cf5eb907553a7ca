import java.math.BigInteger;
import java.util.ArrayList;
import java.util.Arrays;
import java.util.List;

/** The document's words, done as plainly as they stand and at any cost; what CometKin is held against. */
final class Model {
    static final int NONE = -1, UNKNOWN = -2, OUTSIDE = -3, NOT = -4, FULL = -5;

    /** One of people: kind, year of birth, mother, father, gold as told. */
    private List<int[]> people = new ArrayList<>();
    /** A comet: kind, year. */
    private List<int[]> comets = new ArrayList<>();
    private int law = 2;
    private final StringBuilder text = new StringBuilder();
    private Deeds now = new Deeds();
    private final List<Deeds> past = new ArrayList<>();
    private final Deeds[] kept = new Deeds[2];
    private final List<int[]> feasts = new ArrayList<>();

    private static final class Deeds {
        int year;
        boolean[] dead = new boolean[10];
        int[] married = new int[10];
        int[] gold = new int[10];
        /** who, whom, how much, since when, paid */
        List<int[]> debts = new ArrayList<>();

        Deeds() {
            Arrays.fill(married, NONE);
        }

        Deeds copy() {
            Deeds copy = new Deeds();
            copy.year = year;
            copy.dead = dead.clone();
            copy.married = married.clone();
            copy.gold = gold.clone();
            for (int[] debt : debts) {
                copy.debts.add(debt.clone());
            }
            return copy;
        }
    }

    // ---- the text

    private record Token(int place, String letters) { }

    private static List<Token> tokens(String text) {
        List<Token> tokens = new ArrayList<>();
        java.util.regex.Matcher rows = java.util.regex.Pattern
            .compile("[a-z]+|[0-9]+|[^ ]", java.util.regex.Pattern.DOTALL).matcher(text);
        while (rows.find()) {
            tokens.add(new Token(rows.start(), rows.group()));
        }
        return tokens;
    }

    /** The fault's place, or the clauses' number as -100 - n; people, comets and law are changed. */
    private int doText() {
        List<Token> tokens = tokens(text.toString());
        int next = 0;
        for (int clause = 1; ; clause++) {
            if (next == tokens.size()) {
                return text.length();
            }
            Token word = tokens.get(next++);
            int kindOfComet = List.of("comet", "cloud", "spark", "eclipse").indexOf(word.letters);
            int kindOfOne = List.of("child", "seer", "widow").indexOf(word.letters);
            int numbers = switch (word.letters) {
                case "land", "dark" -> 0;
                case "comet", "cloud", "spark", "eclipse", "child", "seer", "widow", "law" -> 1;
                case "to", "gold" -> 2;
                case "of" -> 3;
                default -> -1;
            };
            if (numbers < 0 || kindOfComet >= 0 && comets.size() == 6 || kindOfOne >= 0 && people.size() == 9) {
                return word.place;
            }
            int[] told = new int[numbers];
            for (int i = 0; i < numbers; i++) {
                if (next == tokens.size()) {
                    return text.length();
                }
                Token number = tokens.get(next++);
                if (!number.letters.matches("[0-9]{1,2}")) {
                    return number.place;
                }
                told[i] = Integer.parseInt(number.letters);
                if (!stands(word.letters, told, i)) {
                    return number.place;
                }
            }
            doClause(word.letters, told, kindOfComet, kindOfOne);
            if (next == tokens.size()) {
                return -100 - clause;
            }
            Token behind = tokens.get(next++);
            if (!behind.letters.equals(";") || clause == 14) {
                return behind.place;
            }
        }
    }

    private boolean stands(String word, int[] told, int i) {
        return switch (word) {
            case "law" -> told[0] <= 6;
            case "gold" -> i == 1 || told[0] < people.size();
            case "of", "to" -> i == 0 ? told[0] < people.size() : told[i] < told[0] && (i == 1 || told[2] != told[1]);
            default -> true;
        };
    }

    private void doClause(String word, int[] told, int kindOfComet, int kindOfOne) {
        if (kindOfComet >= 0) {
            comets.add(new int[] {kindOfComet, told[0]});
        } else if (kindOfOne >= 0) {
            people.add(new int[] {kindOfOne, told[0], NONE, NONE, 0});
        }
        switch (word) {
            case "land" -> {
                people.clear();
                comets.clear();
                law = 2;
            }
            case "dark" -> comets.clear();
            case "law" -> law = told[0];
            case "gold" -> people.get(told[0])[4] = told[1];
            case "of", "to" -> {
                people.get(told[0])[2] = told[1];
                people.get(told[0])[3] = word.equals("of") ? told[2] : NONE;
            }
            default -> { }
        }
    }

    private int tryText(boolean stay) {
        List<int[]> people0 = copy(people);
        List<int[]> comets0 = copy(comets);
        int law0 = law;
        int done = doText();
        if (!stay || done >= 0) {
            people = people0;
            comets = comets0;
            law = law0;
        }
        return done;
    }

    private static List<int[]> copy(List<int[]> rows) {
        List<int[]> copy = new ArrayList<>();
        for (int[] row : rows) {
            copy.add(row.clone());
        }
        return copy;
    }

    int write(int letter) {
        if (letter < 0 || letter > 255) {
            return OUTSIDE;
        }
        if (text.length() == 160) {
            return FULL;
        }
        text.append((char) letter);
        return text.length();
    }

    int erase() {
        int had = text.length();
        text.setLength(0);
        return had;
    }

    int fault() {
        return Math.max(NONE, tryText(false));
    }

    int land() {
        int done = tryText(true);
        if (done >= 0) {
            return NOT;
        }
        text.setLength(0);
        now = new Deeds();
        for (int one = 0; one < people.size(); one++) {
            now.gold[one] = people.get(one)[4];
        }
        past.clear();
        Arrays.fill(kept, null);
        feasts.clear();
        return -100 - done;
    }

    // ---- who sees what, who is kin

    private boolean one(int one) {
        return one >= 0 && one < people.size();
    }

    private boolean two(int one, int other) {
        return one(one) && one(other) && one != other;
    }

    private boolean noYear(int year) {
        return year < 0 || year > 99;
    }

    private boolean cancelled(int comet) {
        for (int eclipse = 0; eclipse < comets.size(); eclipse++) {
            if (comets.get(eclipse)[0] == 3) {
                int latest = NONE;
                for (int year = 0; year <= comets.get(eclipse)[1]; year++) {
                    for (int it = 0; it < comets.size(); it++) {
                        boolean ahead = year < comets.get(eclipse)[1] || it < eclipse;
                        if (comets.get(it)[1] == year && comets.get(it)[0] != 3 && ahead) {
                            latest = it;
                        }
                    }
                }
                if (latest == comet) {
                    return true;
                }
            }
        }
        return false;
    }

    private boolean wouldSee(boolean seer, int comet) {
        return switch (comets.get(comet)[0]) {
            case 0 -> true;
            case 1 -> seer;
            case 2 -> !seer;
            default -> false;
        };
    }

    private boolean sees(int one, int comet) {
        return wouldSee(people.get(one)[0] == 1, comet) && !cancelled(comet);
    }

    private boolean counts(int child, int one, int other, int year) {
        int birth = people.get(child)[1];
        if (birth > year) {
            return false;
        }
        for (int comet = 0; comet < comets.size(); comet++) {
            int its = comets.get(comet)[1];
            if (its >= birth && its <= year && sees(one, comet) && sees(other, comet)) {
                return true;
            }
        }
        return false;
    }

    /** All fewest steps by Floyd and Warshall's way, for these two. */
    private int steps(int one, int other, int year) {
        int n = people.size();
        int[][] far = new int[n][n];
        for (int[] row : far) {
            Arrays.fill(row, 1000);
        }
        for (int child = 0; child < n; child++) {
            far[child][child] = 0;
            for (int parent = 2; parent <= 3; parent++) {
                int its = people.get(child)[parent];
                if (its != NONE && counts(child, one, other, year)) {
                    far[child][its] = 1;
                    far[its][child] = 1;
                }
            }
        }
        for (int by = 0; by < n; by++) {
            for (int from = 0; from < n; from++) {
                for (int to = 0; to < n; to++) {
                    far[from][to] = Math.min(far[from][to], far[from][by] + far[by][to]);
                }
            }
        }
        return far[one][other] >= 1000 ? NONE : far[one][other];
    }

    private int kinBits(int one, int year) {
        int bits = 0;
        for (int other = 0; other < people.size(); other++) {
            if (other != one && steps(one, other, year) != NONE) {
                bits |= 1 << other;
            }
        }
        return bits;
    }

    private int pairs(int year) {
        int pairs = 0;
        for (int one = 0; one < people.size(); one++) {
            pairs += Integer.bitCount(kinBits(one, year) >> one);
        }
        return pairs;
    }

    private boolean near(int one, int other, int year) {
        int steps = steps(one, other, year);
        return steps != NONE && steps <= law;
    }

    private int livingBits() {
        int bits = 0;
        for (int one = 0; one < people.size(); one++) {
            bits |= now.dead[one] ? 0 : 1 << one;
        }
        return bits;
    }

    int one(int one, int what) {
        if (!one(one)) {
            return UNKNOWN;
        }
        return switch (what) {
            case 0, 1, 2, 3 -> people.get(one)[what];
            case 4 -> now.gold[one];
            case 5 -> now.dead[one] ? 0 : 1;
            case 6 -> now.married[one];
            default -> OUTSIDE;
        };
    }

    int comet(int comet, int what) {
        if (comet < 0 || comet >= comets.size()) {
            return UNKNOWN;
        }
        if (what < 0 || what > 3) {
            return OUTSIDE;
        }
        if (what < 2) {
            return comets.get(comet)[what];
        }
        if (what == 2) {
            return cancelled(comet) ? 1 : 0;
        }
        int bits = 0;
        for (int one = 0; one < people.size(); one++) {
            bits |= sees(one, comet) ? 1 << one : 0;
        }
        return bits;
    }

    int as(int one, int kind) {
        if (!one(one)) {
            return UNKNOWN;
        }
        if (kind < 0 || kind > 3) {
            return OUTSIDE;
        }
        List<List<Integer>> such = List.of(List.of(0, 1), List.of(0, 2), List.of(0, 1, 3));
        if (!such.get(people.get(one)[0]).contains(kind)) {
            return NOT;
        }
        int bits = 0;
        for (int comet = 0; comet < comets.size(); comet++) {
            bits |= sees(one, comet) ? 1 << comet : 0;
        }
        return bits;
    }

    int cometAs(int comet, int kind) {
        if (comet < 0 || comet >= comets.size()) {
            return UNKNOWN;
        }
        if (kind < 0 || kind > 4) {
            return OUTSIDE;
        }
        List<List<Integer>> such = List.of(List.of(0, 1), List.of(0, 1, 2), List.of(0, 3), List.of(0, 1, 4));
        if (!such.get(comets.get(comet)[0]).contains(kind)) {
            return NOT;
        }
        return (wouldSee(false, comet) ? 1 : 0) + (wouldSee(true, comet) ? 2 : 0);
    }

    int degree(int one, int other, int year) {
        if (!one(one) || !one(other)) {
            return UNKNOWN;
        }
        return noYear(year) ? OUTSIDE : steps(one, other, year);
    }

    int kin(int one, int year) {
        if (!one(one)) {
            return UNKNOWN;
        }
        return noYear(year) ? OUTSIDE : kinBits(one, year);
    }

    // ---- deeds

    private void deed() {
        past.add(now.copy());
        if (past.size() > 8) {
            past.remove(0);
        }
    }

    int go(int n) {
        if (n < 1 || n > 99) {
            return OUTSIDE;
        }
        if (now.year + n > 99) {
            return FULL;
        }
        deed();
        return now.year += n;
    }

    private boolean mayMarry(int one, int other) {
        for (int it : new int[] {one, other}) {
            if (now.dead[it] || people.get(it)[1] > now.year || now.married[it] != NONE) {
                return false;
            }
        }
        return !near(one, other, now.year);
    }

    int may(int one, int other) {
        if (!two(one, other)) {
            return UNKNOWN;
        }
        return mayMarry(one, other) ? 1 : 0;
    }

    private int marriages() {
        int marriages = 0;
        for (int one = 0; one < people.size(); one++) {
            marriages += now.married[one] > one ? 1 : 0;
        }
        return marriages;
    }

    int wed(int one, int other) {
        if (!two(one, other)) {
            return UNKNOWN;
        }
        if (!mayMarry(one, other)) {
            return NOT;
        }
        deed();
        now.married[one] = other;
        now.married[other] = one;
        return marriages();
    }

    int die(int one) {
        if (!one(one)) {
            return UNKNOWN;
        }
        if (now.dead[one] || people.get(one)[1] > now.year) {
            return NOT;
        }
        deed();
        now.dead[one] = true;
        int gold = now.gold[one];
        now.gold[one] = 0;
        int spouse = now.married[one];
        now.married[one] = NONE;
        if (spouse != NONE) {
            now.married[spouse] = NONE;
            if (people.get(spouse)[0] == 2) {
                int half = gold / 2;
                now.gold[spouse] += half;
                gold -= half;
            }
        }
        for (int degree = 1; degree <= 9; degree++) {
            List<Integer> heirs = new ArrayList<>();
            for (int other = 0; other < people.size(); other++) {
                if (!now.dead[other] && steps(one, other, now.year) == degree) {
                    heirs.add(other);
                }
            }
            if (!heirs.isEmpty()) {
                for (int heir : heirs) {
                    now.gold[heir] += gold / heirs.size();
                }
                return heirs.size();
            }
        }
        return 0;
    }

    int owe(int one, int other, int n) {
        if (!two(one, other)) {
            return UNKNOWN;
        }
        if (n < 1 || n > 99) {
            return OUTSIDE;
        }
        if (now.dead[one] || now.dead[other]) {
            return NOT;
        }
        if (now.debts.size() == 8) {
            return FULL;
        }
        deed();
        now.debts.add(new int[] {one, other, n, now.year, 0});
        return now.debts.size() - 1;
    }

    private int due(int[] debt) {
        List<Integer> years = new ArrayList<>();
        for (int comet = 0; comet < comets.size(); comet++) {
            if (comets.get(comet)[1] > debt[3] && sees(debt[0], comet) && sees(debt[1], comet)) {
                years.add(comets.get(comet)[1]);
            }
        }
        years.sort(null);
        return years.size() < 2 ? NONE : years.get(1);
    }

    int debt(int debt, int what) {
        if (debt < 0 || debt >= now.debts.size()) {
            return UNKNOWN;
        }
        int[] its = now.debts.get(debt);
        return switch (what) {
            case 0, 1, 2, 3 -> its[what];
            case 4 -> due(its);
            case 5 -> its[4];
            default -> OUTSIDE;
        };
    }

    int pay(int debt) {
        if (debt < 0 || debt >= now.debts.size()) {
            return UNKNOWN;
        }
        int[] its = now.debts.get(debt);
        int due = due(its);
        if (its[4] == 1 || due == NONE || due > now.year || now.dead[its[0]] || now.dead[its[1]]
                || now.gold[its[0]] < its[2]) {
            return NOT;
        }
        deed();
        now.debts.get(debt)[4] = 1;
        now.gold[its[0]] -= its[2];
        now.gold[its[1]] += its[2];
        return now.gold[its[0]];
    }

    int undo() {
        if (past.isEmpty()) {
            return NOT;
        }
        now = past.remove(past.size() - 1);
        return past.size();
    }

    int keep(int k) {
        if (k < 0 || k > 1) {
            return UNKNOWN;
        }
        kept[k] = now.copy();
        return now.year;
    }

    int back(int k) {
        if (k < 0 || k > 1) {
            return UNKNOWN;
        }
        if (kept[k] == null) {
            return NOT;
        }
        now = kept[k].copy();
        past.clear();
        return now.year;
    }

    // ---- foretold

    int first(int one, int other, int degree) {
        if (!two(one, other)) {
            return UNKNOWN;
        }
        if (degree < 0 || degree > 9) {
            return OUTSIDE;
        }
        for (int year = now.year; year <= 99; year++) {
            int steps = steps(one, other, year);
            if (steps != NONE && steps <= degree) {
                return year;
            }
        }
        return NONE;
    }

    int last(int one, int other) {
        if (!two(one, other)) {
            return UNKNOWN;
        }
        int last = NONE;
        for (int year = now.year; year <= 99; year++) {
            last = near(one, other, year) ? last : year;
        }
        return last;
    }

    int bestBorn(int mother, int father, int year, int what) {
        if (!two(mother, father)) {
            return UNKNOWN;
        }
        if (noYear(year) || what < 0 || what > 1) {
            return OUTSIDE;
        }
        if (people.size() == 9) {
            return FULL;
        }
        int best = NONE;
        int most = NONE;
        for (int birth = now.year; birth <= year; birth++) {
            if (people.get(mother)[1] <= birth && people.get(father)[1] <= birth) {
                int living = livingBits();
                people.add(new int[] {0, birth, mother, father, 0});
                int kin = Integer.bitCount(kinBits(people.size() - 1, year) & living);
                people.remove(people.size() - 1);
                if (kin > most) {
                    most = kin;
                    best = birth;
                }
            }
        }
        return what == 0 ? best : most;
    }

    /** The most pairs of those from least on, with none of the bits. */
    private int mostWeddings(boolean[][] may, int least, int without) {
        int n = people.size();
        for (int one = least; one < n; one++) {
            if ((without >> one & 1) == 0) {
                int most = mostWeddings(may, one + 1, without);
                for (int other = one + 1; other < n; other++) {
                    if ((without >> other & 1) == 0 && may[one][other]) {
                        most = Math.max(most, 1 + mostWeddings(may, one + 1, without | 1 << other));
                    }
                }
                return most;
            }
        }
        return 0;
    }

    int weddings(int what) {
        if (what < 0 || what > 2) {
            return OUTSIDE;
        }
        int n = people.size();
        boolean[][] may = new boolean[n][n];
        for (int one = 0; one < n; one++) {
            for (int other = 0; other < n; other++) {
                may[one][other] = one != other && mayMarry(one, other);
            }
        }
        int most = mostWeddings(may, 0, 0);
        if (what == 0) {
            return most;
        }
        for (int one = 0; one < n; one++) {
            for (int other = one + 1; other < n; other++) {
                if (may[one][other] && 1 + mostWeddings(may, one + 1, 1 << other) == most) {
                    return what == 1 ? one : other;
                }
            }
        }
        return NONE;
    }

    int makes(int what) {
        if (what < 0 || what > 1) {
            return OUTSIDE;
        }
        int all = pairs(now.year);
        int best = NONE;
        int most = 0;
        for (int comet = 0; comet < comets.size(); comet++) {
            int[] without = comets.remove(comet);
            int fewer = all - pairs(now.year);
            comets.add(comet, without);
            if (fewer > most) {
                most = fewer;
                best = comet;
            }
        }
        return what == 0 || best == NONE ? best : most;
    }

    int feasted(int one, int other, int year, int is) {
        if (!two(one, other)) {
            return UNKNOWN;
        }
        if (noYear(year) || is < 0 || is > 1) {
            return OUTSIDE;
        }
        if (feasts.size() == 8) {
            return FULL;
        }
        feasts.add(new int[] {one, other, year, is});
        return feasts.size();
    }

    int forget() {
        int had = feasts.size();
        feasts.clear();
        return had;
    }

    /** All truths, in order, each the kinds of the comets. */
    private List<int[]> allTruths() {
        List<int[]> truths = new ArrayList<>();
        List<int[]> told = comets;
        comets = copy(told);
        tryKinds(0, truths);
        comets = told;
        return truths;
    }

    private void tryKinds(int comet, List<int[]> truths) {
        if (comet == comets.size()) {
            for (int[] feast : feasts) {
                if ((steps(feast[0], feast[1], feast[2]) != NONE) != (feast[3] == 1)) {
                    return;
                }
            }
            truths.add(comets.stream().mapToInt(it -> it[0]).toArray());
        } else if (comets.get(comet)[0] == 3) {
            tryKinds(comet + 1, truths);
        } else {
            for (int kind = 0; kind < 3; kind++) {
                comets.get(comet)[0] = kind;
                tryKinds(comet + 1, truths);
            }
        }
    }

    int truths(int what) {
        if (what < 0 || what > 1) {
            return OUTSIDE;
        }
        List<int[]> truths = allTruths();
        if (what == 0 || truths.isEmpty()) {
            return truths.size();
        }
        int bits = 0;
        for (int comet = 0; comet < comets.size(); comet++) {
            int its = comet;
            bits |= truths.stream().mapToInt(truth -> truth[its]).distinct().count() == 1 ? 1 << comet : 0;
        }
        return bits;
    }

    int truth(int comet) {
        if (comet < 0 || comet >= comets.size()) {
            return UNKNOWN;
        }
        List<int[]> truths = allTruths();
        return truths.isEmpty() ? NONE : truths.get(0)[comet];
    }

    long left(int one, int n, int p, int part) {
        if (!one(one)) {
            return UNKNOWN;
        }
        if (n < 0 || n > 8 || p < 0 || p > 10 || part < 0 || part > 1) {
            return OUTSIDE;
        }
        int m = Integer.bitCount(kinBits(one, now.year) & livingBits());
        BigInteger above = BigInteger.ZERO;
        for (int alive = 0; alive < 1 << m; alive++) {
            int bits = Integer.bitCount(alive);
            if (bits >= n) {
                above = above.add(BigInteger.valueOf(10 - p).pow(bits).multiply(BigInteger.valueOf(p).pow(m - bits)));
            }
        }
        BigInteger below = BigInteger.TEN.pow(m);
        return (part == 0 ? above : below).divide(above.gcd(below)).longValueExact();
    }

    int count(int what) {
        return switch (what) {
            case 0 -> people.size();
            case 1 -> comets.size();
            case 2 -> now.year;
            case 3 -> law;
            case 4 -> livingBits();
            case 5 -> marriages();
            case 6 -> Arrays.stream(now.gold).sum();
            case 7 -> now.debts.size();
            case 8 -> pairs(now.year);
            case 9 -> feasts.size();
            case 10 -> past.size();
            case 11 -> text.length();
            default -> OUTSIDE;
        };
    }
}
