/** The boundary cases of promises 6 to 11: what is told of people and comets, and who is kin. */
public final class ToldBoundsTest {
    private static final Runs R = new Runs("ToldBoundsTest");

    public static void main(String[] args) {
        farNumbers();
        one();
        comet();
        whoSees();
        cancelled();
        as();
        cometAs();
        yearsOfDegreeAndKin();
        degree();
        birthsThatCount();
        whoSeeTogether();
        kin();
        refusedInTheirOrder();
        R.end();
    }

    private static void farNumbers() {
        String small = "land \"child 1;seer 2;comet 3;cloud 4\"\n";
        StringBuilder ones = new StringBuilder(small);
        StringBuilder others = new StringBuilder(small);
        for (int far : Runs.FAR) {
            addUnknown(ones, far);
            others.append(String.format("one(0, %d) OUTSIDE%ncomet(0, %d) OUTSIDE%nas(0, %d) OUTSIDE%n", far, far, far));
            others.append(String.format("cometAs(0, %d) OUTSIDE%ndegree(0, 1, %d) OUTSIDE%n", far, far));
            others.append(String.format("degree(1, 1, %d) OUTSIDE%nkin(0, %d) OUTSIDE%n", far, far));
        }
        for (int shifted : Runs.SHIFTED) {
            addUnknown(ones, shifted);
            others.append(String.format("one(0, %d) OUTSIDE%ncomet(0, %d) OUTSIDE%n", shifted, shifted));
            others.append(String.format("as(0, %d) OUTSIDE%ncometAs(0, %d) OUTSIDE%n", shifted, shifted));
        }
        R.holds(6, "Refused, and nothing changes: UNKNOWN (no such one, COMET, DEBT;", ones.toString());
        R.holds(6, "OUTSIDE (another number is not as told)", others.toString());
    }

    private static void addUnknown(StringBuilder lines, int far) {
        lines.append(String.format("one(%d, 0) UNKNOWN%ncomet(%d, 0) UNKNOWN%nas(%d, 0) UNKNOWN%n", far, far, far));
        lines.append(String.format("cometAs(%d, 0) UNKNOWN%ndegree(%d, 0, 5) UNKNOWN%n", far, far));
        lines.append(String.format("degree(0, %d, 5) UNKNOWN%nkin(%d, 5) UNKNOWN%n", far, far));
    }

    private static void one() {
        R.holds(6, "Of one: KIND (what 0), YEAR of his BIRTH (1), MOTHER (2; NONE), FATHER (3; NONE), GOLD (4)", """
            land "child 0;seer 99;widow 5;of 2 0 1;gold 2 99;child 7;to 3 2"
            one(0, -1) OUTSIDE
            one(0, 0) 0
            one(1, 0) 1
            one(2, 0) 2
            one(0, 1) 0
            one(1, 1) 99
            one(0, 2) NONE
            one(0, 3) NONE
            one(2, 2) 0
            one(2, 3) 1
            one(3, 2) 2
            one(3, 3) NONE
            one(0, 4) 0
            one(2, 4) 99
            """);
        R.holds(6, "of a KIND, 0 PLAIN, 1 SEER, 2 WIDOW, born in a YEAR", """
            land "widow 0;seer 99;child 0"
            one(0, 0) 2
            one(1, 0) 1
            one(2, 0) 0
            one(3, 0) UNKNOWN
            """);
        R.holds(6, "1 he lives, 0 (5), to whom married (6; NONE). UNKNOWN; OUTSIDE.", """
            land "child 0;child 0;child 1"
            one(0, 5) 1
            one(2, 5) 1
            one(0, 6) NONE
            wed(0, 1) 1
            one(0, 6) 1
            one(1, 6) 0
            one(2, 6) NONE
            one(0, 7) OUTSIDE
            one(3, 6) UNKNOWN
            one(-1, 0) UNKNOWN
            die(0) 0
            one(0, 5) 0
            one(0, 6) NONE
            one(1, 6) NONE
            one(1, 5) 1
            """);
        R.holds(6, "PEOPLE are 0, 1 .. as they come, 9 at most (none at first)", "one(0, 0) UNKNOWN\n" + Runs.NINE + """
            one(8, 1) 0
            one(8, 5) 1
            one(9, 1) UNKNOWN
            one(9, 7) UNKNOWN
            """);
    }

    private static void comet() {
        R.holds(7, "Of a COMET: KIND (what 0), YEAR (1), 1 it is CANCELLED, 0 (2), who SEES it, by bits (3). UNKNOWN; OUTSIDE.", """
            comet(0, 0) UNKNOWN
            land "child 1;seer 1;comet 0;cloud 99;spark 50;eclipse 51"
            comet(0, -1) OUTSIDE
            comet(0, 0) 0
            comet(1, 0) 1
            comet(2, 0) 2
            comet(3, 0) 3
            comet(0, 1) 0
            comet(1, 1) 99
            comet(0, 2) 0
            comet(2, 2) 1
            comet(0, 3) 3
            comet(1, 3) 2
            comet(2, 3) 0
            comet(3, 3) 0
            comet(3, 4) OUTSIDE
            comet(4, 0) UNKNOWN
            comet(4, 4) UNKNOWN
            comet(-1, 0) UNKNOWN
            """);
        R.holds(7, "each in a YEAR, of a KIND, 0 TRUE, 1 CLOUDED, 2 FALSE, 3 ECLIPSED.", """
            land "eclipse 99;spark 0;cloud 99;comet 0"
            comet(0, 0) 3
            comet(1, 0) 2
            comet(2, 0) 1
            comet(3, 0) 0
            comet(4, 0) UNKNOWN
            """);
        R.holds(7, "COMETS are 0, 1 .. as they come, 6 at most (none at first)", Runs.NINE + """
            land "comet 9;comet 8;comet 7;comet 6;comet 5;comet 4"
            comet(0, 1) 9
            comet(5, 1) 4
            comet(5, 3) 511
            comet(6, 1) UNKNOWN
            """);
    }

    private static void whoSees() {
        R.holds(7, "A TRUE COMET is SEEN by all, a CLOUDED one by SEERS alone, a FALSE one by all but SEERS", """
            land "comet 1;cloud 1;spark 1"
            comet(0, 3) 0
            comet(1, 3) 0
            comet(2, 3) 0
            land "seer 99"
            comet(0, 3) 1
            comet(1, 3) 1
            comet(2, 3) 0
            land "widow 99;child 99"
            comet(0, 3) 7
            comet(1, 3) 1
            comet(2, 3) 6
            die(0) NOT
            """);
        R.holds(7, "an ECLIPSED one by nobody", """
            land "child 1;seer 1;widow 1;eclipse 9"
            comet(0, 3) 0
            comet(0, 2) 0
            """);
        // by all: nothing is told of those who died
        R.holds(7, "A TRUE COMET is SEEN by all", """
            land "child 0;comet 5"
            die(0) 0
            comet(0, 3) 1
            """);
    }

    private static void cancelled() {
        R.holds(7, "it CANCELS the latest one ahead of it (by YEAR, of one YEAR by number; no ECLIPSED one)", """
            land "comet 50;comet 49;eclipse 50;comet 50;comet 51"
            comet(0, 2) 1
            comet(1, 2) 0
            comet(3, 2) 0
            comet(4, 2) 0
            ----
            land "comet 49;comet 49;eclipse 50"
            comet(0, 2) 0
            comet(1, 2) 1
            ----
            land "eclipse 50;comet 50;comet 49"
            comet(1, 2) 0
            comet(2, 2) 1
            ----
            land "eclipse 0;comet 0"
            comet(1, 2) 0
            ----
            land "comet 0;eclipse 0"
            comet(0, 2) 1
            ----
            land "eclipse 99;comet 98;comet 99"
            comet(1, 2) 1
            comet(2, 2) 0
            """);
        R.holds(7, "no ECLIPSED one): that is not SEEN by anybody either.", """
            land "child 0;seer 0;comet 4;cloud 5;eclipse 6;eclipse 7;eclipse 8"
            comet(0, 2) 0
            comet(1, 2) 1
            comet(2, 2) 0
            comet(3, 2) 0
            comet(4, 2) 0
            comet(0, 3) 3
            comet(1, 3) 0
            """);
        R.holds(7, "an ECLIPSED one by nobody: it CANCELS the latest one ahead of it", """
            land "eclipse 1;eclipse 2;eclipse 3;eclipse 4;eclipse 5;eclipse 6"
            comet(0, 2) 0
            comet(5, 2) 0
            ----
            land "child 0;comet 1;eclipse 2;comet 3;eclipse 4;comet 5;eclipse 6"
            comet(0, 2) 1
            comet(2, 2) 1
            comet(4, 2) 1
            as(0, 0) 0
            """);
    }

    private static void as() {
        R.holds(8, "One taken as a KIND (0 .. 3, as they are over one another): COMETS that he SEES, by bits.", """
            land "child 0;seer 0;widow 0"
            as(0, 0) 0
            as(1, 2) 0
            land "comet 1;cloud 2;spark 3;comet 4;cloud 5;comet 6"
            as(0, -1) OUTSIDE
            as(0, 0) 45
            as(1, 0) 59
            as(2, 0) 45
            as(2, 3) 45
            as(0, 3) NOT
            as(0, 4) OUTSIDE
            as(2, 4) OUTSIDE
            as(3, 0) UNKNOWN
            as(3, 4) UNKNOWN
            as(-1, -1) UNKNOWN
            ----
            land "child 0;comet 1;comet 2;comet 3;comet 4;comet 5;comet 6"
            as(0, 1) 63
            """);
        R.holds(8, "KINDS of PEOPLE are over one another: ONE (0); PLAIN (1) under it; SEER (2) is ONE; WIDOW (3) is PLAIN.", """
            land "child 0;seer 0;widow 0;comet 1"
            as(0, 0) 1
            as(0, 1) 1
            as(0, 2) NOT
            as(0, 3) NOT
            as(1, 0) 1
            as(1, 1) NOT
            as(1, 2) 1
            as(1, 3) NOT
            as(2, 0) 1
            as(2, 1) 1
            as(2, 2) NOT
            as(2, 3) 1
            """);
        R.holds(8, "COMETS that he SEES, by bits. UNKNOWN; OUTSIDE; NOT: he is none such.", Runs.NINE + """
            land "spark 1;eclipse 2;spark 3"
            as(8, 1) 4
            as(8, 2) NOT
            as(9, 1) UNKNOWN
            """);
    }

    private static void cometAs() {
        R.holds(9, "A COMET taken as a KIND (0 .. 4): 1 a PLAIN one would SEE it, were it not CANCELLED, 2 a SEER, together.", """
            cometAs(0, 0) UNKNOWN
            land "comet 1;eclipse 2;cloud 3;eclipse 4;spark 5;eclipse 6"
            comet(0, 2) 1
            comet(2, 2) 1
            comet(4, 2) 1
            cometAs(0, -1) OUTSIDE
            cometAs(0, 0) 3
            cometAs(2, 0) 2
            cometAs(4, 0) 1
            cometAs(5, 0) 0
            cometAs(5, 4) 0
            cometAs(5, 5) OUTSIDE
            cometAs(0, 5) OUTSIDE
            cometAs(6, 0) UNKNOWN
            cometAs(6, 5) UNKNOWN
            cometAs(-1, -1) UNKNOWN
            """);
        R.holds(9, "LIGHT (0); TRUE (1) under it; CLOUDED (2) is TRUE; FALSE (3) is a LIGHT; ECLIPSED (4) is TRUE.", """
            land "comet 1;cloud 2;spark 3;eclipse 4"
            cometAs(0, 1) 3
            cometAs(0, 2) NOT
            cometAs(0, 3) NOT
            cometAs(0, 4) NOT
            cometAs(1, 1) 2
            cometAs(1, 2) 2
            cometAs(1, 3) NOT
            cometAs(1, 4) NOT
            cometAs(2, 1) NOT
            cometAs(2, 2) NOT
            cometAs(2, 3) 1
            cometAs(2, 4) NOT
            cometAs(3, 1) 0
            cometAs(3, 2) NOT
            cometAs(3, 3) NOT
            cometAs(3, 4) 0
            """);
        R.holds(9, "UNKNOWN; OUTSIDE; NOT: it is none such.", """
            land "spark 1"
            cometAs(1, 5) UNKNOWN
            cometAs(0, 5) OUTSIDE
            cometAs(0, 4) NOT
            """);
    }

    private static void yearsOfDegreeAndKin() {
        R.holds(10, "DEGREE of two in a YEAR; NONE: they are not KIN. UNKNOWN (one and himself: 0); OUTSIDE.", Runs.LINE + """
            degree(0, 1, -1) OUTSIDE
            degree(0, 1, 0) 1
            degree(0, 1, 99) 1
            degree(0, 1, 100) OUTSIDE
            degree(8, 8, -1) OUTSIDE
            degree(8, 8, 0) 0
            degree(8, 8, 99) 0
            degree(8, 8, 100) OUTSIDE
            degree(8, 9, 0) UNKNOWN
            degree(9, 9, 0) UNKNOWN
            degree(-1, -1, 0) UNKNOWN
            """);
        R.holds(11, "All others who are KIN to one in a YEAR, by bits. UNKNOWN; OUTSIDE.", Runs.LINE + """
            kin(0, -1) OUTSIDE
            kin(0, 0) 510
            kin(0, 99) 510
            kin(0, 100) OUTSIDE
            kin(8, 0) 255
            kin(9, 0) UNKNOWN
            kin(-1, 0) UNKNOWN
            """);
        R.holds(10, "YEARS are 0 .. 99.", """
            land "child 99;child 99;to 1 0;comet 99"
            degree(0, 1, 98) NONE
            degree(0, 1, 99) 1
            kin(0, 98) 0
            kin(0, 99) 2
            """);
    }

    private static void degree() {
        StringBuilder line = new StringBuilder(Runs.LINE);
        for (int other = 0; other < 9; other++) {
            line.append("degree(0, ").append(other).append(", 5) ").append(other).append("\n");
            line.append("degree(").append(other).append(", 0, 5) ").append(other).append("\n");
        }
        R.holds(10, "their DEGREE is the fewest such steps (of one to himself 0)", line.toString());
        R.holds(10, "their DEGREE is the fewest such steps", Runs.LINE + """
            land "of 8 7 0"
            degree(0, 8, 5) 1
            degree(0, 4, 5) 4
            degree(0, 5, 5) 4
            degree(0, 7, 5) 2
            land "of 8 7 1"
            degree(0, 8, 5) 2
            land "to 8 0"
            degree(7, 8, 5) 8
            """);
        R.holds(10, "NONE: they are not KIN.", Runs.NINE + """
            degree(0, 8, 99) NONE
            land "to 8 0"
            degree(0, 8, 99) NONE
            land "comet 50"
            degree(0, 8, 49) NONE
            degree(0, 8, 50) 1
            degree(0, 7, 99) NONE
            """);
    }

    private static void birthsThatCount() {
        R.holds(10, "if it is not later than that, and there is a COMET that both SEE, in its YEAR or later, not later than that YEAR.", """
            land "child 0;child 50;to 1 0;comet 49"
            degree(0, 1, 99) NONE
            kin(0, 99) 0
            land "dark;comet 50"
            degree(0, 1, 49) NONE
            degree(0, 1, 50) 1
            degree(0, 1, 51) 1
            kin(1, 49) 0
            kin(1, 50) 1
            land "dark;comet 51"
            degree(0, 1, 50) NONE
            degree(0, 1, 51) 1
            land "comet 49"
            degree(0, 1, 50) NONE
            degree(0, 1, 51) 1
            land "dark;comet 99"
            degree(0, 1, 98) NONE
            degree(0, 1, 99) 1
            """);
        R.holds(11, "A BIRTH COUNTS for two of PEOPLE in a YEAR, if it is not later than that", """
            land "child 50;child 0;to 1 0;comet 0"
            kin(0, 0) 2
            kin(1, 0) 1
            ----
            land "child 0;child 0;child 50;of 2 0 1;comet 49;comet 50"
            kin(0, 49) 0
            kin(0, 50) 6
            degree(0, 1, 49) NONE
            degree(0, 1, 50) 2
            """);
    }

    private static void whoSeeTogether() {
        // the BIRTH of 2, by whom 0 and 1 are KIN, is asked of what these two SEE, not of what 2 does
        R.holds(10, "each from a child to a parent, or back, of children whose BIRTHS COUNT for these two then (through anybody)", """
            land "seer 0;seer 0;child 0;of 2 0 1;cloud 5;spark 6"
            degree(0, 1, 4) NONE
            degree(0, 1, 5) 2
            degree(0, 2, 99) NONE
            kin(0, 99) 2
            kin(2, 99) 0
            ----
            land "child 0;widow 0;seer 0;of 2 0 1;spark 5;cloud 6"
            degree(0, 1, 4) NONE
            degree(0, 1, 5) 2
            degree(1, 2, 99) NONE
            land "comet 7"
            degree(1, 2, 6) NONE
            degree(1, 2, 7) 1
            """);
        R.holds(11, "that is not SEEN by anybody either.", """
            land "child 0;child 0;to 1 0;comet 5;eclipse 5"
            kin(0, 99) 0
            land "comet 5"
            kin(0, 4) 0
            kin(0, 5) 2
            """);
        // who died is KIN yet, and others are through him
        R.holds(10, "Two are KIN in a YEAR, if one comes from one to the other by steps, each from a child to a parent, or back", """
            land "child 0;child 0;child 1;child 2;to 2 0;of 3 2 1;comet 3"
            degree(3, 0, 3) 2
            degree(0, 3, 3) 2
            degree(0, 1, 3) 3
            degree(1, 2, 3) 2
            kin(1, 3) 13
            land "to 3 2"
            kin(1, 3) 0
            degree(1, 3, 3) NONE
            """);
        R.holds(10, "(through anybody)", """
            land "child 0;child 0;child 0;to 1 0;to 2 1;comet 0"
            die(1) 2
            degree(0, 2, 0) 2
            degree(0, 1, 0) 1
            kin(1, 0) 5
            """);
    }

    private static void kin() {
        R.holds(11, "All others who are KIN to one in a YEAR, by bits.", """
            land "child 0"
            kin(0, 0) 0
            kin(0, 99) 0
            kin(1, 0) UNKNOWN
            """);
        R.holds(11, "All others who are KIN to one in a YEAR, by bits.", Runs.NINE + """
            kin(0, 99) 0
            kin(8, 99) 0
            land "to 8 0;comet 99"
            kin(0, 98) 0
            kin(0, 99) 256
            kin(8, 99) 1
            kin(4, 99) 0
            """);
    }

    private static void refusedInTheirOrder() {
        R.holds(8, "NOT (not now: as told), FULL: the first of these that fits.", """
            land "child 0;spark 0"
            one(1, 7) UNKNOWN
            comet(1, 4) UNKNOWN
            as(1, 4) UNKNOWN
            as(0, 4) OUTSIDE
            as(0, 2) NOT
            cometAs(1, 5) UNKNOWN
            cometAs(0, 5) OUTSIDE
            cometAs(0, 1) NOT
            degree(0, 1, 100) UNKNOWN
            degree(1, 0, -1) UNKNOWN
            kin(1, 100) UNKNOWN
            """);
    }
}
