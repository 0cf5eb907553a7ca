/** The boundary cases of promises 22 to 32: what is foretold. */
public final class ForetoldBoundsTest {
    private static final Runs R = new Runs("ForetoldBoundsTest");
    /** Two who are no SEERS, a parent and a child, and two SEERS. */
    private static final String TWO_AND_TWO = "land \"child 0;child 0;to 1 0;seer 0;seer 0;to 3 2\"\n";

    public static void main(String[] args) {
        farOnes();
        farNumbers();
        first();
        last();
        bestBornByYears();
        bestBornByPeople();
        weddings();
        weddingsByTheFirstPair();
        makes();
        makesOfSeveral();
        feasted();
        forget();
        truthsOfAll();
        truthsByFeasts();
        truth();
        left();
        leftOfThoseWhoLive();
        countOfNothing();
        countOfTheMost();
        nothingChanges();
        refusedInTheirOrder();
        R.end();
    }

    private static void farOnes() {
        StringBuilder lines = new StringBuilder("land \"child 0;child 0;comet 1\"\n");
        for (int[] numbers : new int[][] {Runs.FAR, Runs.SHIFTED}) {
            for (int far : numbers) {
                lines.append(String.format("first(%d, 0, 1) UNKNOWN%nfirst(0, %d, 1) UNKNOWN%n", far, far));
                lines.append(String.format("last(%d, 0) UNKNOWN%nlast(0, %d) UNKNOWN%n", far, far));
                lines.append(String.format("bestBorn(%d, 0, 5, 0) UNKNOWN%nbestBorn(0, %d, 5, 0) UNKNOWN%n", far, far));
                lines.append(String.format("feasted(%d, 0, 5, 0) UNKNOWN%nfeasted(0, %d, 5, 0) UNKNOWN%n", far, far));
                lines.append(String.format("truth(%d) UNKNOWN%nleft(%d, 1, 3, 0) UNKNOWN%n", far, far));
            }
        }
        R.holds(22, "Refused, and nothing changes: UNKNOWN (no such one, COMET, DEBT;", lines.toString());
    }

    private static void farNumbers() {
        StringBuilder lines = new StringBuilder("land \"child 0;child 0;comet 1\"\n");
        for (int far : Runs.FAR) {
            lines.append(String.format("bestBorn(0, 1, %d, 0) OUTSIDE%nfeasted(0, 1, %d, 0) OUTSIDE%n", far, far));
            addOutside(lines, far);
        }
        for (int shifted : Runs.SHIFTED) {
            addOutside(lines, shifted);
        }
        R.holds(22, "OUTSIDE (another number is not as told)", lines.toString());
    }

    private static void addOutside(StringBuilder lines, int far) {
        lines.append(String.format("first(0, 1, %d) OUTSIDE%nbestBorn(0, 1, 5, %d) OUTSIDE%n", far, far));
        lines.append(String.format("weddings(%d) OUTSIDE%nmakes(%d) OUTSIDE%ntruths(%d) OUTSIDE%n", far, far, far));
        lines.append(String.format("feasted(0, 1, 5, %d) OUTSIDE%nleft(0, %d, 3, 0) OUTSIDE%n", far, far));
        lines.append(String.format("left(0, 1, %d, 0) OUTSIDE%nleft(0, 1, 3, %d) OUTSIDE%n", far, far));
        lines.append(String.format("count(%d) OUTSIDE%n", far));
    }

    private static void first() {
        R.holds(22, "FIRST; NONE. UNKNOWN; OUTSIDE: the DEGREE (0 .. 9).", Runs.LINE + """
            first(0, 8, -1) OUTSIDE
            first(0, 8, 0) NONE
            first(0, 8, 7) NONE
            first(0, 8, 8) 0
            first(0, 8, 9) 0
            first(0, 8, 10) OUTSIDE
            first(0, 1, 0) NONE
            first(0, 1, 1) 0
            first(8, 0, 8) 0
            first(0, 0, 9) UNKNOWN
            first(0, 9, 9) UNKNOWN
            first(9, 0, 9) UNKNOWN
            first(-1, 0, 9) UNKNOWN
            """);
        R.holds(22, "FIRST of two, from this YEAR on: the first YEAR in which they are KIN at a told DEGREE at most", """
            land "child 0;child 5;to 1 0;comet 4;comet 8"
            first(0, 1, 9) 8
            go(7) 7
            first(0, 1, 9) 8
            go(1) 8
            first(0, 1, 9) 8
            go(1) 9
            first(0, 1, 9) 9
            go(90) 99
            first(0, 1, 9) 99
            """);
        R.holds(22, "none up to 99.", """
            land "child 0;child 0;to 1 0;child 99;to 2 0;comet 99"
            first(0, 1, 9) 99
            first(0, 2, 1) 99
            first(1, 2, 1) NONE
            first(1, 2, 2) 99
            land "dark;comet 98"
            first(0, 2, 9) NONE
            first(0, 1, 9) 98
            land "dark"
            first(0, 1, 9) NONE
            """);
    }

    private static void last() {
        R.holds(23, "LAST: the last YEAR up to 99 in which they are not NEAR; none from this one on.", """
            land "child 0;child 0;to 1 0;child 0;comet 99"
            last(0, 1) 98
            last(0, 2) 99
            land "dark;comet 0"
            last(0, 1) NONE
            last(1, 0) NONE
            land "dark;comet 1"
            last(0, 1) 0
            go(1) 1
            last(0, 1) NONE
            last(0, 2) 99
            go(98) 99
            last(0, 1) NONE
            last(0, 2) 99
            """);
        R.holds(23, "LAST; NONE. UNKNOWN.", Runs.LINE + """
            last(0, 0) UNKNOWN
            last(0, 9) UNKNOWN
            last(9, 0) UNKNOWN
            last(0, -1) UNKNOWN
            last(0, 2) NONE
            last(0, 3) 99
            land "law 0"
            last(0, 1) 99
            land "law 6"
            last(0, 6) NONE
            last(0, 7) 99
            """);
        // near by a shorter way that counts later: of degree 3 by 5, of degree 2 by 9
        R.holds(23, "in which they are not NEAR", """
            land "child 0;child 0;to 1 0;child 0;to 2 1;child 0;to 3 2;child 7;of 4 0 3;comet 5;comet 9"
            degree(0, 3, 8) 3
            degree(0, 3, 9) 2
            last(0, 3) 8
            land "law 3"
            last(0, 3) 4
            land "law 1"
            last(0, 3) 99
            """);
    }

    private static void bestBornByYears() {
        R.holds(24, "the YEAR of his BIRTH, from this one to a told one, in which both were born (not later)", """
            land "child 3;child 5;comet 9"
            bestBorn(0, 1, 4, 0) NONE
            bestBorn(0, 1, 4, 1) NONE
            bestBorn(0, 1, 5, 0) 5
            bestBorn(0, 1, 5, 1) 0
            bestBorn(1, 0, 8, 1) 0
            bestBorn(1, 0, 9, 0) 5
            bestBorn(1, 0, 9, 1) 2
            go(6) 6
            bestBorn(0, 1, 5, 0) NONE
            bestBorn(0, 1, 6, 0) 6
            bestBorn(0, 1, 99, 0) 6
            go(3) 9
            bestBorn(0, 1, 99, 0) 9
            bestBorn(0, 1, 99, 1) 2
            go(1) 10
            bestBorn(0, 1, 99, 0) 10
            bestBorn(0, 1, 99, 1) 0
            """);
        R.holds(24, "BEST BORN: the YEAR (what 0), to how many (1); NONE. UNKNOWN; OUTSIDE: the YEAR told (0 .. 99), what", """
            land "child 0;child 99;child 0;comet 0;comet 99"
            bestBorn(0, 2, -1, 0) OUTSIDE
            bestBorn(0, 2, 0, 0) 0
            bestBorn(0, 2, 0, 1) 2
            bestBorn(0, 2, 99, 1) 2
            bestBorn(0, 2, 100, 0) OUTSIDE
            bestBorn(0, 2, 99, -1) OUTSIDE
            bestBorn(0, 2, 99, 2) OUTSIDE
            bestBorn(0, 1, 98, 0) NONE
            bestBorn(0, 1, 99, 0) 99
            bestBorn(0, 1, 99, 1) 2
            go(99) 99
            bestBorn(0, 2, 98, 0) NONE
            bestBorn(0, 2, 99, 0) 99
            """);
        R.holds(24, "of several the first; to how many; none.", """
            land "child 0;child 0"
            bestBorn(0, 1, 99, 0) 0
            bestBorn(0, 1, 99, 1) 0
            land "comet 50"
            bestBorn(0, 1, 49, 0) 0
            bestBorn(0, 1, 49, 1) 0
            bestBorn(0, 1, 50, 0) 0
            bestBorn(0, 1, 50, 1) 2
            """);
    }

    private static void bestBornByPeople() {
        R.holds(24, "FULL: there are 9 of PEOPLE.", """
            bestBorn(0, 1, 5, 0) UNKNOWN
            land "child 0;child 0;to 1 0;child 0;to 2 1;child 0;to 3 2;comet 0"
            land "child 0;to 4 3;child 0;to 5 4;child 0;to 6 5;child 0;to 7 6"
            bestBorn(0, 7, 5, 0) 0
            bestBorn(0, 7, 5, 1) 8
            count(0) 8
            count(8) 28
            land "child 0"
            bestBorn(0, 7, 5, 0) FULL
            bestBorn(0, 7, 5, 2) OUTSIDE
            bestBorn(0, 7, 100, 0) OUTSIDE
            bestBorn(0, 0, 5, 0) UNKNOWN
            bestBorn(0, 9, 5, 0) UNKNOWN
            land "land;child 0;child 0"
            bestBorn(0, 1, 5, 0) 0
            """);
        R.holds(24, "such that in the told one he is KIN to most who live now", """
            land "child 0;child 0;child 0;to 2 0;comet 4"
            bestBorn(0, 1, 4, 1) 3
            die(2) 0
            bestBorn(0, 1, 4, 1) 2
            die(0) 0
            die(1) 0
            bestBorn(0, 1, 4, 0) 0
            bestBorn(0, 1, 4, 1) 0
            """);
        // PLAIN, whatever the parents are
        R.holds(24, "BEST BORN: one more, PLAIN, a child of a MOTHER and a FATHER", """
            land "seer 0;seer 0;cloud 5;spark 6"
            bestBorn(0, 1, 99, 1) 0
            land "comet 7"
            bestBorn(0, 1, 6, 1) 0
            bestBorn(0, 1, 7, 1) 2
            bestBorn(0, 0, 7, 1) UNKNOWN
            """);
    }

    private static void weddings() {
        R.holds(25, "WEDDINGS: how many (what 0), the first pair's lesser one (1), the other one (2); NONE. OUTSIDE.", """
            weddings(-1) OUTSIDE
            weddings(0) 0
            weddings(1) NONE
            weddings(2) NONE
            weddings(3) OUTSIDE
            land "child 0"
            weddings(0) 0
            weddings(1) NONE
            weddings(2) NONE
            land "child 0"
            weddings(0) 1
            weddings(1) 0
            weddings(2) 1
            wed(0, 1) 1
            weddings(0) 0
            weddings(1) NONE
            """);
        R.holds(25, "WEDDINGS: the most that can be made now, by pairs who MAY MARRY", Runs.NINE + """
            weddings(0) 4
            weddings(1) 0
            weddings(2) 1
            wed(0, 8) 1
            weddings(0) 3
            weddings(1) 1
            weddings(2) 2
            die(7) 0
            weddings(0) 3
            die(6) 0
            weddings(0) 2
            count(5) 1
            """);
        R.holds(25, "by pairs who MAY MARRY", Runs.LINE + """
            land "law 6"
            weddings(0) 2
            weddings(1) 0
            weddings(2) 7
            ----
            land "child 0;child 1;child 2;child 99"
            weddings(0) 0
            go(1) 1
            weddings(0) 1
            go(97) 98
            weddings(0) 1
            weddings(2) 1
            go(1) 99
            weddings(0) 2
            """);
    }

    private static void weddingsByTheFirstPair() {
        // all but 7 and 8 are NEAR: the first pair is the last one
        R.holds(25, "with which, nobody less than its lesser one marrying, there are as many.", Runs.NINE + """
            land "to 1 0;to 2 0;to 3 0;to 4 0;to 5 0;to 6 0;to 7 0;of 8 1 2;comet 0"
            degree(7, 8, 0) 3
            degree(0, 8, 0) 2
            weddings(0) 1
            weddings(1) 3
            weddings(2) 8
            """);
        R.holds(25, "the first pair (its lesser one, then the other one least)", """
            land "child 0;child 0;to 1 0;child 0;child 0;to 3 2;comet 0;law 1"
            weddings(0) 2
            weddings(1) 0
            weddings(2) 2
            ----
            land "child 0;child 0;child 0;child 0;to 1 0;to 2 0;to 3 1;comet 0"
            may(2, 3) 1
            weddings(0) 1
            weddings(1) 2
            weddings(2) 3
            """);
        // 0 may marry 1 alone, 1 may marry 0 and 2, 2 may marry 1 and 3: 0 with 1 leaves 2 with 3
        R.holds(25, "the most that can be made now", """
            land "child 0;child 0;child 0;to 2 0;child 0;of 3 0 1;comet 0;law 1"
            may(0, 1) 1
            may(0, 2) 0
            may(0, 3) 0
            may(1, 2) 1
            may(1, 3) 0
            may(2, 3) 1
            weddings(0) 2
            weddings(1) 0
            weddings(2) 1
            """);
    }

    private static void makes() {
        R.holds(26, "MAKES: the COMET (what 0), how many fewer (1); NONE. OUTSIDE.", """
            makes(-1) OUTSIDE
            makes(0) NONE
            makes(1) NONE
            makes(2) OUTSIDE
            land "child 0;child 0;to 1 0;comet 1"
            makes(0) NONE
            makes(1) NONE
            go(1) 1
            makes(0) 0
            makes(1) 1
            count(1) 1
            """);
        R.holds(26, "MAKES: the COMET without which most pairs fewer are KIN in this YEAR", Runs.LINE + """
            makes(0) 0
            makes(1) 36
            land "dark;cloud 0;cloud 0;cloud 0;cloud 0;cloud 0;comet 0"
            makes(0) 5
            makes(1) 36
            land "dark;comet 0;comet 0"
            makes(0) NONE
            makes(1) NONE
            land "dark;comet 99"
            go(98) 98
            makes(1) NONE
            go(1) 99
            makes(1) 36
            """);
        R.holds(26, "none: none makes any.", """
            land "comet 0;comet 0"
            makes(0) NONE
            land "child 0;child 0"
            makes(0) NONE
            makes(1) NONE
            ----
            land "child 0;child 0;to 1 0;comet 0;eclipse 0"
            makes(0) NONE
            makes(1) NONE
            """);
    }

    private static void makesOfSeveral() {
        R.holds(26, "of several the least; how many fewer", TWO_AND_TWO + """
            land "spark 1;cloud 2"
            go(2) 2
            makes(0) 0
            makes(1) 1
            land "dark;cloud 2;spark 1"
            go(2) 2
            makes(0) 0
            makes(1) 1
            land "dark;cloud 1;spark 2;comet 0"
            go(2) 2
            makes(0) NONE
            """);
        R.holds(26, "most pairs fewer are KIN in this YEAR", TWO_AND_TWO + """
            land "child 0;to 4 0;cloud 1;spark 1"
            go(1) 1
            makes(0) 1
            makes(1) 3
            """);
        // without what is CANCELLED another one is: all are fewer, or none
        R.holds(26, "(what is CANCELLED found anew)", """
            land "child 0;child 0;to 1 0;comet 1;comet 2;eclipse 3"
            go(3) 3
            comet(1, 2) 1
            makes(0) 0
            makes(1) 1
            comet(1, 2) 1
            ----
            land "child 0;child 0;to 1 0;cloud 2;comet 1;eclipse 3"
            go(3) 3
            makes(0) 0
            makes(1) 1
            ----
            land "child 0;child 0;to 1 0;eclipse 3;cloud 2;comet 1"
            go(3) 3
            makes(0) 1
            """);
    }

    private static void feasted() {
        R.holds(27, "FEASTED, 8 at most: two were KIN in a YEAR (1), or not (0).", TWO_AND_TWO + """
            feasted(0, 1, -1, 1) OUTSIDE
            feasted(0, 1, 100, 1) OUTSIDE
            feasted(0, 1, 5, -1) OUTSIDE
            feasted(0, 1, 5, 2) OUTSIDE
            count(9) 0
            feasted(0, 1, 0, 0) 1
            feasted(0, 1, 99, 1) 2
            feasted(0, 1, 99, 1) 3
            feasted(0, 1, 99, 1) 4
            feasted(0, 1, 99, 1) 5
            feasted(0, 1, 99, 1) 6
            feasted(0, 1, 99, 1) 7
            count(9) 7
            feasted(3, 2, 0, 1) 8
            feasted(0, 1, 99, 1) FULL
            feasted(2, 3, 0, 0) FULL
            count(9) 8
            count(10) 0
            forget() 8
            feasted(0, 1, 99, 1) 1
            """);
        R.holds(27, "FEASTED: how many. UNKNOWN; OUTSIDE; FULL.", Runs.NINE + """
            feasted(8, 8, 5, 1) UNKNOWN
            feasted(8, 9, 5, 1) UNKNOWN
            feasted(9, 8, 5, 1) UNKNOWN
            feasted(-1, 8, 5, 1) UNKNOWN
            feasted(8, 7, 5, 1) 1
            """);
        // by the eighth 0 is TRUE or CLOUDED: with 1 TRUE or FALSE where 0 is CLOUDED these are five of nine
        R.holds(27, "FEASTED, 8 at most", TWO_AND_TWO + """
            land "comet 5;comet 6"
            feasted(0, 1, 99, 1) 1
            feasted(0, 1, 98, 1) 2
            feasted(1, 0, 97, 1) 3
            feasted(1, 0, 4, 0) 4
            feasted(2, 3, 4, 0) 5
            feasted(0, 2, 99, 0) 6
            feasted(1, 3, 0, 0) 7
            truths(0) 8
            feasted(2, 3, 5, 1) 8
            truths(0) 5
            truth(0) 0
            truth(1) 0
            feasted(2, 3, 5, 0) FULL
            truths(0) 5
            """);
        // what is FEASTED may be of a YEAR yet to come, and of two who are KIN, or not, as told
        R.holds(27, "two were KIN in a YEAR (1), or not (0).", TWO_AND_TWO + """
            land "comet 5"
            feasted(0, 1, 99, 0) 1
            feasted(0, 1, 99, 1) 2
            truths(0) 0
            degree(0, 1, 99) 1
            go(1) 1
            count(9) 2
            """);
    }

    private static void forget() {
        R.holds(28, "Nothing is FEASTED: how many there were.", TWO_AND_TWO + """
            forget() 0
            feasted(0, 1, 5, 1) 1
            forget() 1
            forget() 0
            count(9) 0
            """ + "feasted(0, 1, 5, 1) 1\nfeasted(0, 1, 5, 1) 2\nfeasted(0, 1, 5, 1) 3\nfeasted(0, 1, 5, 1) 4\n"
            + "feasted(0, 1, 5, 1) 5\nfeasted(0, 1, 5, 1) 6\nfeasted(0, 1, 5, 1) 7\nfeasted(0, 1, 5, 1) 8\n" + """
            truths(0) 0
            forget() 8
            truths(0) 1
            count(10) 0
            """);
    }

    private static void truthsOfAll() {
        R.holds(29, "TRUTHS: how many (what 0), COMETS of one KIND in all, by bits (1; none: 0). OUTSIDE.", """
            truths(-1) OUTSIDE
            truths(0) 1
            truths(1) 0
            truths(2) OUTSIDE
            land "comet 1"
            truths(0) 3
            truths(1) 0
            land "comet 1;cloud 1;spark 1;comet 1;comet 99"
            truths(0) 729
            truths(1) 0
            truth(0) 0
            truth(5) 0
            truth(6) UNKNOWN
            """);
        R.holds(29, "ways in which each COMET that is not ECLIPSED can be TRUE, CLOUDED or FALSE", """
            land "eclipse 1;eclipse 1;eclipse 1;eclipse 1;eclipse 1;eclipse 1"
            truths(0) 1
            truths(1) 63
            truth(5) 3
            land "dark;comet 1;eclipse 2"
            truths(0) 3
            truths(1) 2
            truth(0) 0
            truth(1) 3
            """);
    }

    private static void truthsByFeasts() {
        R.holds(29, "so that all FEASTED is so: how many", TWO_AND_TWO + """
            land "comet 5"
            feasted(0, 1, 4, 0) 1
            truths(0) 3
            feasted(0, 1, 5, 1) 2
            truths(0) 2
            truths(1) 0
            feasted(2, 3, 5, 1) 3
            truths(0) 1
            truths(1) 1
            truth(0) 0
            feasted(2, 3, 99, 0) 4
            truths(0) 0
            truths(1) 0
            truth(0) NONE
            forget() 4
            feasted(0, 1, 4, 1) 1
            truths(0) 0
            truth(0) NONE
            """);
        R.holds(29, "COMETS that are of one KIND in all, by bits.", TWO_AND_TWO + """
            land "comet 1;comet 2;comet 3;comet 4;comet 5;comet 6"
            feasted(0, 1, 5, 0) 1
            feasted(2, 3, 5, 0) 2
            truths(0) 0
            forget() 2
            feasted(0, 1, 5, 0) 1
            truths(0) 3
            truths(1) 31
            truth(0) 1
            truth(4) 1
            truth(5) 0
            feasted(0, 1, 6, 1) 2
            feasted(2, 3, 6, 0) 3
            truths(0) 0
            forget() 3
            feasted(2, 3, 5, 0) 1
            feasted(0, 1, 6, 1) 2
            truths(0) 3
            truths(1) 31
            truth(0) 2
            """);
        // what is CANCELLED is not SEEN, of whatever KIND it is: three ways that are alike
        R.holds(29, "that is not SEEN by anybody either.", TWO_AND_TWO + """
            land "comet 5;eclipse 5;comet 4"
            feasted(0, 1, 4, 0) 1
            truths(0) 3
            truths(1) 6
            truth(2) 1
            feasted(0, 1, 99, 1) 2
            truths(0) 0
            """);
    }

    private static void truth() {
        R.holds(30, "The KIND of a COMET in the first TRUTH; NONE: there is none. UNKNOWN.", TWO_AND_TWO + """
            truth(0) UNKNOWN
            land "spark 5"
            truth(-1) UNKNOWN
            truth(0) 0
            truth(1) UNKNOWN
            feasted(0, 1, 5, 0) 1
            truth(0) 1
            forget() 1
            feasted(2, 3, 5, 0) 1
            truth(0) 2
            feasted(0, 1, 5, 0) 2
            truth(0) NONE
            truth(1) UNKNOWN
            comet(0, 0) 2
            """);
        // 0 and 2, the one no SEER, the other a SEER, SEE but what is TRUE; the first COMET is TRUE ahead of the second
        R.holds(30, "the first (by COMETS, in this order)", """
            land "child 0;seer 0;to 1 0;comet 9;comet 5"
            feasted(0, 1, 9, 1) 1
            truths(0) 5
            truth(0) 0
            truth(1) 0
            feasted(0, 1, 8, 0) 2
            truths(0) 2
            truth(0) 0
            truth(1) 1
            forget() 2
            feasted(0, 1, 8, 1) 1
            truth(0) 0
            truth(1) 0
            """);
    }

    private static void left() {
        R.holds(31, "n at least (0 .. 8) live on, if each dies by p tenths (0 .. 10), by himself.", Runs.LINE + """
            left(0, -1, 5, 0) OUTSIDE
            left(0, 9, 5, 0) OUTSIDE
            left(0, 0, -1, 0) OUTSIDE
            left(0, 0, 11, 0) OUTSIDE
            left(0, 0, 5, -1) OUTSIDE
            left(0, 0, 5, 2) OUTSIDE
            left(0, 0, 0, 0) 1
            left(0, 0, 10, 0) 1
            left(0, 0, 10, 1) 1
            left(0, 8, 0, 0) 1
            left(0, 8, 0, 1) 1
            left(0, 8, 10, 0) 0
            left(0, 8, 10, 1) 1
            left(0, 1, 10, 0) 0
            left(0, 8, 5, 0) 1
            left(0, 8, 5, 1) 256
            left(0, 1, 5, 0) 255
            left(0, 1, 5, 1) 256
            left(0, 8, 1, 0) 43046721
            left(0, 8, 1, 1) 100000000
            left(0, 8, 9, 0) 1
            left(0, 8, 9, 1) 100000000
            left(0, 0, 5, 0) 1
            left(0, 0, 5, 1) 1
            """);
        // of eight who live by one half: 1, 8, 28, 56, 70, 56, 28, 8, 1 of 256
        R.holds(31, "Parts are told in lowest terms: above (part 0), below (1).", Runs.LINE + """
            left(4, 7, 5, 0) 9
            left(4, 7, 5, 1) 256
            left(4, 6, 5, 0) 37
            left(4, 6, 5, 1) 256
            left(4, 5, 5, 0) 93
            left(4, 4, 5, 0) 163
            left(4, 3, 5, 0) 219
            left(4, 2, 5, 0) 247
            left(4, 8, 2, 0) 65536
            left(4, 8, 2, 1) 390625
            left(4, 8, 8, 0) 1
            left(4, 8, 8, 1) 390625
            """);
    }

    private static void leftOfThoseWhoLive() {
        R.holds(31, "the odds that of those who live and are KIN to him in this YEAR, but himself", """
            left(0, 0, 0, 0) UNKNOWN
            land "child 0;child 0;child 0;to 1 0;to 2 0;comet 5"
            left(0, 0, 5, 0) 1
            left(0, 0, 5, 1) 1
            left(0, 1, 5, 0) 0
            left(0, 1, 5, 1) 1
            left(0, 1, 0, 0) 0
            go(4) 4
            left(0, 1, 0, 0) 0
            go(1) 5
            left(0, 1, 0, 0) 1
            left(0, 2, 5, 1) 4
            left(0, 3, 0, 0) 0
            left(0, 3, 0, 1) 1
            die(1) 1
            left(0, 1, 5, 1) 2
            left(0, 2, 0, 0) 0
            left(1, 2, 5, 1) 4
            left(3, 0, 0, 0) UNKNOWN
            left(-1, 0, 0, 0) UNKNOWN
            """);
        R.holds(31, "LEFT. UNKNOWN; OUTSIDE.", """
            land "child 0"
            left(1, 9, 11, 2) UNKNOWN
            left(0, 9, 11, 2) OUTSIDE
            left(0, 8, 10, 1) 1
            left(0, 8, 10, 0) 0
            left(0, 0, 0, 0) 1
            """);
    }

    private static void countOfNothing() {
        StringBuilder lines = new StringBuilder("count(-1) OUTSIDE\ncount(12) OUTSIDE\n");
        for (int what = 0; what < 12; what++) {
            lines.append("count(").append(what).append(") ").append(what == 3 ? 2 : 0).append("\n");
        }
        R.holds(32, "9 FEASTED, 10 how many can be undone, 11 letters of THE TEXT. OUTSIDE.", lines.toString());
    }

    private static void countOfTheMost() {
        R.holds(32, "0 PEOPLE, 1 COMETS, 2 the YEAR, 3 LAW, 4 those who live, by bits, 5 MARRIAGES, 6 GOLD of all", Runs.NINE + """
            land "gold 0 99;gold 1 99;gold 2 99;gold 3 99;gold 4 99;gold 5 99;gold 6 99;gold 7 99;gold 8 99"
            land "comet 0;comet 0;comet 0;comet 0;comet 0;comet 0;law 6"
            count(0) 9
            count(1) 6
            count(3) 6
            count(4) 511
            count(6) 891
            wed(0, 1) 1
            wed(2, 3) 2
            wed(4, 5) 3
            wed(6, 7) 4
            count(5) 4
            go(99) 99
            count(2) 99
            count(12) OUTSIDE
            """);
        R.holds(32, "7 DEBTS, 8 pairs who are KIN in this YEAR, 9 FEASTED, 10 how many can be undone", Runs.LINE + """
            count(8) 36
            """ + "owe(0, 1, 1) 0\nowe(0, 1, 1) 1\nowe(0, 1, 1) 2\nowe(0, 1, 1) 3\n"
            + "owe(0, 1, 1) 4\nowe(0, 1, 1) 5\nowe(0, 1, 1) 6\nowe(0, 1, 1) 7\n"
            + "feasted(0, 1, 5, 1) 1\nfeasted(0, 1, 5, 1) 2\nfeasted(0, 1, 5, 1) 3\nfeasted(0, 1, 5, 1) 4\n"
            + "feasted(0, 1, 5, 1) 5\nfeasted(0, 1, 5, 1) 6\nfeasted(0, 1, 5, 1) 7\nfeasted(0, 1, 5, 1) 8\n" + """
            count(7) 8
            count(9) 8
            count(10) 8
            die(0) 1
            count(8) 36
            count(4) 510
            """);
        R.holds(32, "11 letters of THE TEXT. OUTSIDE.", "write \"" + "x".repeat(160) + "\"\n" + """
            count(11) 160
            write(120) FULL
            count(11) 160
            erase() 160
            count(11) 0
            """);
        R.holds(32, "8 pairs who are KIN in this YEAR", """
            land "child 0;child 0;child 2;to 1 0;to 2 0;comet 1;comet 3"
            count(8) 0
            go(1) 1
            count(8) 1
            go(1) 2
            count(8) 1
            go(1) 3
            count(8) 3
            """);
    }

    private static void nothingChanges() {
        String busy = """
            land "child 0;widow 0;child 0;of 2 0 1;seer 0;to 3 2;gold 0 9;comet 1;cloud 2;eclipse 3;spark 4"
            go(4) 4
            feasted(0, 1, 3, 1) 1
            keep(0) 4
            count(8) 6
            comet(1, 2) 1
            """;
        R.holds(32, "FORETOLD (nothing changes).", busy + """
            bestBorn(0, 1, 99, 0) 4
            makes(0) 0
            truths(0) 18
            truth(0) 0
            weddings(0) 0
            first(0, 1, 9) 4
            last(0, 3) NONE
            left(0, 1, 1, 1) 1000
            count(0) 4
            count(1) 4
            count(2) 4
            count(5) 0
            count(8) 6
            count(10) 1
            comet(1, 0) 1
            comet(1, 2) 1
            comet(0, 3) 15
            bestBorn(0, 1, 99, 0) 4
            truths(0) 18
            makes(0) 0
            undo() 0
            undo() NOT
            back(0) 4
            """);
    }

    private static void refusedInTheirOrder() {
        R.holds(24, "NOT (not now: as told), FULL: the first of these that fits.", Runs.NINE + """
            first(0, 0, 10) UNKNOWN
            bestBorn(0, 0, 100, 2) UNKNOWN
            bestBorn(0, 9, 100, 0) UNKNOWN
            bestBorn(0, 1, 100, 0) OUTSIDE
            bestBorn(0, 1, 5, 2) OUTSIDE
            bestBorn(0, 1, 5, 0) FULL
            """);
        R.holds(27, "NOT (not now: as told), FULL: the first of these that fits.", TWO_AND_TWO
            + "feasted(0, 1, 5, 1) 1\nfeasted(0, 1, 5, 1) 2\nfeasted(0, 1, 5, 1) 3\nfeasted(0, 1, 5, 1) 4\n"
            + "feasted(0, 1, 5, 1) 5\nfeasted(0, 1, 5, 1) 6\nfeasted(0, 1, 5, 1) 7\nfeasted(0, 1, 5, 1) 8\n" + """
            feasted(0, 0, 100, 2) UNKNOWN
            feasted(0, 4, 5, 1) UNKNOWN
            feasted(0, 1, 100, 1) OUTSIDE
            feasted(0, 1, 5, 2) OUTSIDE
            feasted(0, 1, 5, 1) FULL
            """);
    }
}
