/** The boundary cases of promises 12 to 21: years and deeds. */
public final class DeedsBoundsTest {
    private static final Runs R = new Runs("DeedsBoundsTest");
    /** All others children of 0. */
    private static final String STAR = Runs.NINE
        + "land \"to 1 0;to 2 0;to 3 0;to 4 0;to 5 0;to 6 0;to 7 0;to 8 0;comet 0\"\n";

    public static void main(String[] args) {
        farNumbers();
        go();
        mayByBirthsAndLife();
        mayByTheLaw();
        wed();
        dieOrNot();
        dieAndLeaveAWidow();
        dieAndLeaveParts();
        dieAndLeaveToTheNearest();
        owe();
        oweTooMany();
        debt();
        due();
        payByItsYear();
        payByGoldAndLife();
        undo();
        undoOfEach();
        undoAgainAndAgain();
        keep();
        back();
        backBehindOther();
        refusedInTheirOrder();
        R.end();
    }

    private static void farNumbers() {
        String two = "land \"child 0;child 0;gold 0 9;comet 1;comet 2\"\nowe(0, 1, 1) 0\n";
        StringBuilder unknown = new StringBuilder(two);
        StringBuilder outside = new StringBuilder(two);
        for (int far : Runs.FAR) {
            addUnknown(unknown, far);
            outside.append(String.format("go(%d) OUTSIDE%nowe(0, 1, %d) OUTSIDE%ndebt(0, %d) OUTSIDE%n", far, far, far));
        }
        for (int shifted : Runs.SHIFTED) {
            addUnknown(unknown, shifted);
            outside.append(String.format("debt(0, %d) OUTSIDE%n", shifted));
        }
        R.holds(12, "Refused, and nothing changes: UNKNOWN (no such one, COMET, DEBT;", unknown.toString());
        R.holds(12, "OUTSIDE (another number is not as told)", outside.toString());
    }

    private static void addUnknown(StringBuilder lines, int far) {
        lines.append(String.format("may(%d, 0) UNKNOWN%nmay(0, %d) UNKNOWN%nwed(%d, 0) UNKNOWN%n", far, far, far));
        lines.append(String.format("wed(0, %d) UNKNOWN%ndie(%d) UNKNOWN%nowe(%d, 0, 1) UNKNOWN%n", far, far, far));
        lines.append(String.format("owe(0, %d, 1) UNKNOWN%ndebt(%d, 0) UNKNOWN%npay(%d) UNKNOWN%n", far, far, far));
        lines.append(String.format("keep(%d) UNKNOWN%nback(%d) UNKNOWN%n", far, far));
    }

    private static void go() {
        R.holds(12, "n YEARS (1 .. 99) go by: the YEAR then. OUTSIDE; FULL: above 99.", """
            go(0) OUTSIDE
            go(100) OUTSIDE
            count(2) 0
            go(1) 1
            go(99) FULL
            count(2) 1
            go(98) 99
            go(1) FULL
            go(99) FULL
            go(0) OUTSIDE
            go(100) OUTSIDE
            count(2) 99
            count(10) 2
            ----
            go(99) 99
            go(1) FULL
            ----
            go(98) 98
            go(2) FULL
            go(1) 99
            """);
    }

    private static void mayByBirthsAndLife() {
        R.holds(13, "Two MAY MARRY in this YEAR, if both live, were born (not later), are not married, and not NEAR in it.", """
            land "child 0;child 5;child 99;child 5"
            may(0, 1) 0
            may(1, 0) 0
            go(4) 4
            may(0, 1) 0
            go(1) 5
            may(0, 1) 1
            may(1, 0) 1
            may(0, 2) 0
            wed(0, 1) 1
            may(0, 3) 0
            may(3, 1) 0
            may(0, 1) 0
            die(1) 0
            may(0, 3) 1
            may(0, 1) 0
            may(1, 3) 0
            go(93) 98
            may(2, 3) 0
            go(1) 99
            may(2, 3) 1
            """);
        R.holds(13, "1 two MAY MARRY, 0. UNKNOWN.", """
            may(0, 0) UNKNOWN
            may(0, 1) UNKNOWN
            land "child 0"
            may(0, 0) UNKNOWN
            may(0, 1) UNKNOWN
            may(1, 0) UNKNOWN
            land "seer 0"
            may(0, 1) 1
            may(1, 1) UNKNOWN
            may(-1, 1) UNKNOWN
            may(2, 1) UNKNOWN
            """);
        R.holds(13, "one and himself, where two are asked)", Runs.NINE + """
            may(8, 8) UNKNOWN
            may(8, 7) 1
            may(8, 9) UNKNOWN
            may(9, 9) UNKNOWN
            """);
    }

    private static void mayByTheLaw() {
        for (int law = 0; law <= 6; law++) {
            StringBuilder lines = new StringBuilder(Runs.LINE).append("land \"law ").append(law).append("\"\n");
            for (int degree = 1; degree <= 8; degree++) {
                lines.append(String.format("may(0, %d) %d%nmay(%d, 0) %d%n", degree, degree > law ? 1 : 0, degree,
                    degree > law ? 1 : 0));
            }
            R.holds(13, "They are NEAR, if they are KIN and it is no more than LAW.", lines.toString());
        }
        R.holds(13, "They are NEAR, if they are KIN", """
            land "child 0;child 0;to 1 0;law 6;comet 1"
            may(0, 1) 1
            go(1) 1
            may(0, 1) 0
            land "law 0"
            go(1) 1
            may(0, 1) 1
            """);
    }

    private static void wed() {
        R.holds(14, "They MARRY: how many MARRIAGES there are. UNKNOWN; NOT.", """
            wed(0, 1) UNKNOWN
            land "child 0;child 0;child 1;child 0;to 3 0;comet 0"
            wed(0, 0) UNKNOWN
            wed(0, 4) UNKNOWN
            wed(-1, 0) UNKNOWN
            wed(0, 2) NOT
            wed(0, 3) NOT
            count(5) 0
            count(10) 0
            wed(1, 0) 1
            one(0, 6) 1
            one(1, 6) 0
            wed(0, 1) NOT
            wed(1, 3) NOT
            count(5) 1
            count(10) 1
            go(1) 1
            wed(2, 3) 2
            one(2, 6) 3
            die(0) 1
            count(5) 1
            wed(0, 1) NOT
            """);
        R.holds(14, "They MARRY: how many MARRIAGES there are.", Runs.NINE + """
            wed(8, 0) 1
            wed(7, 1) 2
            wed(2, 6) 3
            wed(3, 5) 4
            wed(4, 8) NOT
            count(5) 4
            one(4, 6) NONE
            wed(4, 9) UNKNOWN
            """);
    }

    private static void dieOrNot() {
        R.holds(15, "One DIES: how many have what is left of his GOLD in like parts.", """
            die(0) UNKNOWN
            land "child 0;child 1;child 99"
            die(1) NOT
            die(2) NOT
            die(3) UNKNOWN
            die(-1) UNKNOWN
            count(4) 7
            count(10) 0
            die(0) 0
            die(0) NOT
            count(4) 6
            count(10) 1
            go(1) 1
            die(1) 0
            die(1) NOT
            go(97) 98
            die(2) NOT
            go(1) 99
            die(2) 0
            count(4) 0
            """);
        R.holds(15, "Who DIES is married no more (the other one neither)", """
            land "child 0;child 0;gold 0 9"
            wed(0, 1) 1
            die(0) 0
            one(0, 6) NONE
            one(1, 6) NONE
            count(5) 0
            one(0, 4) 0
            one(1, 4) 0
            count(6) 0
            """);
        R.holds(15, "UNKNOWN; NOT: he does not live, was not born yet.", Runs.NINE + """
            die(8) 0
            die(8) NOT
            die(9) UNKNOWN
            count(4) 255
            """);
    }

    private static void dieAndLeaveAWidow() {
        int[] halves = {0, 0, 1, 1, 2, 49, 49};
        int[] golds = {0, 1, 2, 3, 4, 98, 99};
        for (int at = 0; at < golds.length; at++) {
            R.holds(15, "of his GOLD half (cut) goes to who was married to him, if that is a WIDOW", String.format("""
                land "child 0;widow 0;gold 0 %d;child 0;to 2 0;comet 0"
                wed(0, 1) 1
                die(0) 1
                one(0, 4) 0
                one(1, 4) %d
                one(2, 4) %d
                """, golds[at], halves[at], golds[at] - halves[at]));
        }
        R.holds(15, "goes to who was married to him, if that is a WIDOW", """
            land "widow 0;child 0;seer 0;gold 0 10;gold 2 10"
            wed(0, 1) 1
            die(0) 0
            one(1, 4) 0
            wed(1, 2) 1
            die(2) 0
            one(1, 4) 0
            ----
            land "child 0;widow 0;widow 0;gold 0 10"
            die(0) 0
            one(1, 4) 0
            count(6) 0
            """);
        // she who was married to him may be KIN too, by a child of both, and has both then
        R.holds(15, "what is left goes in like parts", """
            land "child 0;widow 0;child 0;of 2 0 1;gold 0 7;comet 0;law 1"
            wed(0, 1) 1
            die(2) 2
            die(0) 1
            one(1, 4) 7
            """);
    }

    private static void dieAndLeaveParts() {
        int[][] cases = {{0, 0}, {1, 0}, {7, 0}, {8, 1}, {9, 1}, {15, 1}, {16, 2}, {99, 12}};
        for (int[] it : cases) {
            R.holds(15, "what is left goes in like parts (cut; the rest is lost)", STAR + String.format("""
                land "gold 0 %d"
                die(0) 8
                one(1, 4) %d
                one(8, 4) %d
                count(6) %d
                """, it[0], it[1], it[1], 8 * it[1]));
        }
        R.holds(15, "what is left goes in like parts (cut; the rest is lost)", STAR + """
            land "gold 0 99;gold 1 5"
            die(8) 1
            die(7) 1
            die(6) 1
            die(0) 5
            one(1, 4) 24
            one(2, 4) 19
            one(6, 4) 0
            one(8, 4) 0
            count(6) 100
            """);
        R.holds(15, "(to none: it is lost)", """
            land "child 0;gold 0 99;child 0;to 1 0;comet 1"
            die(0) 0
            count(6) 0
            one(1, 4) 0
            ----
            land "child 0;gold 0 99;child 0;to 1 0;comet 1"
            die(1) 0
            go(1) 1
            die(0) 0
            count(6) 0
            """);
    }

    private static void dieAndLeaveToTheNearest() {
        R.holds(15, "to those who live and are KIN to him in this YEAR at the least DEGREE that any of these has", Runs.LINE + """
            land "gold 0 40"
            die(1) 2
            die(2) 1
            die(3) 1
            die(4) 1
            die(5) 1
            die(6) 1
            die(7) 1
            die(0) 1
            one(8, 4) 40
            die(8) 0
            count(6) 0
            """);
        R.holds(15, "are KIN to him in this YEAR at the least DEGREE", """
            land "child 0;child 0;child 0;to 1 0;to 2 1;gold 1 10;comet 1;comet 9"
            go(1) 1
            die(1) 2
            one(0, 4) 5
            one(2, 4) 5
            """);
        // who is not born yet lives, and may be KIN by a child that was born: a MOTHER need not be older
        R.holds(15, "to those who live", """
            land "child 50;child 0;to 1 0;gold 1 6;comet 0"
            may(0, 1) 0
            die(0) NOT
            die(1) 1
            one(0, 4) 6
            """);
    }

    private static void owe() {
        R.holds(16, "A DEBT of n (1 .. 99) more: which it is. UNKNOWN; OUTSIDE; NOT: one of both does not live; FULL.", """
            owe(0, 1, 1) UNKNOWN
            land "child 0;child 0;child 99;child 0"
            owe(0, 1, 0) OUTSIDE
            owe(0, 1, 100) OUTSIDE
            owe(0, 1, -1) OUTSIDE
            owe(0, 0, 1) UNKNOWN
            owe(0, 4, 1) UNKNOWN
            owe(-1, 0, 1) UNKNOWN
            count(7) 0
            count(10) 0
            owe(0, 1, 1) 0
            owe(0, 1, 99) 1
            owe(2, 0, 5) 2
            debt(0, 2) 1
            debt(1, 2) 99
            die(3) 0
            owe(3, 0, 1) NOT
            owe(0, 3, 1) NOT
            count(7) 3
            count(10) 4
            """);
        R.holds(16, "one owes another so much from a YEAR on", """
            land "child 0;child 0"
            owe(0, 1, 7) 0
            debt(0, 3) 0
            go(99) 99
            owe(1, 0, 7) 1
            debt(0, 3) 0
            debt(1, 3) 99
            debt(1, 4) NONE
            """);
    }

    private static void oweTooMany() {
        R.holds(16, "DEBTS, 8 at most", """
            land "child 0;child 0;gold 0 9;comet 1;comet 2"
            owe(0, 1, 1) 0
            owe(0, 1, 1) 1
            owe(0, 1, 1) 2
            owe(0, 1, 1) 3
            owe(0, 1, 1) 4
            owe(0, 1, 1) 5
            owe(0, 1, 1) 6
            count(7) 7
            owe(1, 0, 9) 7
            owe(0, 1, 1) FULL
            owe(1, 0, 99) FULL
            count(7) 8
            count(10) 8
            debt(7, 2) 9
            debt(8, 0) UNKNOWN
            go(2) 2
            pay(0) 8
            owe(0, 1, 1) FULL
            undo() 7
            undo() 6
            undo() 5
            count(7) 7
            owe(1, 0, 3) 7
            debt(7, 2) 3
            owe(0, 1, 1) FULL
            """);
    }

    private static void debt() {
        R.holds(17, "Of a DEBT: who (what 0), whom (1), how much (2), since when (3), the YEAR in which it is DUE (4; NONE)", """
            debt(0, 0) UNKNOWN
            land "child 0;child 0;gold 0 99;comet 4;comet 5"
            debt(0, 0) UNKNOWN
            go(3) 3
            owe(0, 1, 99) 0
            debt(0, -1) OUTSIDE
            debt(0, 0) 0
            debt(0, 1) 1
            debt(0, 2) 99
            debt(0, 3) 3
            debt(0, 4) 5
            debt(0, 5) 0
            debt(0, 6) OUTSIDE
            debt(1, 0) UNKNOWN
            debt(1, 6) UNKNOWN
            debt(-1, -1) UNKNOWN
            """);
        R.holds(17, "1 it was PAID, 0 (5). UNKNOWN; OUTSIDE.", """
            land "child 0;child 0;gold 0 5;comet 1;comet 2"
            owe(0, 1, 5) 0
            owe(0, 1, 5) 1
            go(2) 2
            debt(0, 5) 0
            pay(0) 0
            debt(0, 5) 1
            debt(1, 5) 0
            debt(0, 2) 5
            debt(0, 4) 2
            count(7) 2
            undo() 3
            debt(0, 5) 0
            """);
    }

    private static void due() {
        R.holds(17, "it is DUE in the YEAR of the second COMET (by YEAR, then by number) that both SEE in a later YEAR than that", """
            land "child 0;child 0;comet 5;comet 6;comet 7"
            go(4) 4
            owe(0, 1, 1) 0
            debt(0, 4) 6
            go(1) 5
            owe(0, 1, 1) 1
            debt(1, 4) 7
            go(1) 6
            owe(0, 1, 1) 2
            debt(2, 4) NONE
            go(1) 7
            owe(0, 1, 1) 3
            debt(3, 4) NONE
            debt(0, 4) 6
            """);
        R.holds(17, "(of two in one YEAR, too); never, if there is none.", """
            land "child 0;child 0;comet 9;comet 5;comet 5"
            owe(0, 1, 1) 0
            debt(0, 4) 5
            go(4) 4
            owe(0, 1, 1) 1
            debt(1, 4) 5
            go(1) 5
            owe(0, 1, 1) 2
            debt(2, 4) NONE
            ----
            land "child 0;child 0;comet 0;comet 99;comet 99"
            owe(0, 1, 1) 0
            debt(0, 4) 99
            go(98) 98
            owe(0, 1, 1) 1
            debt(1, 4) 99
            go(1) 99
            owe(0, 1, 1) 2
            debt(2, 4) NONE
            """);
        R.holds(17, "never, if there is none.", """
            land "child 0;child 0"
            owe(0, 1, 1) 0
            debt(0, 4) NONE
            ----
            land "child 0;child 0;comet 0;comet 0;comet 1"
            owe(0, 1, 1) 0
            debt(0, 4) NONE
            """);
        R.holds(17, "that both SEE in a later YEAR than that", """
            land "seer 0;seer 0;child 0;child 0;cloud 1;spark 2;cloud 3;spark 4"
            owe(0, 1, 1) 0
            debt(0, 4) 3
            owe(2, 3, 1) 1
            debt(1, 4) 4
            owe(0, 2, 1) 2
            debt(2, 4) NONE
            ----
            land "child 0;child 0;comet 1;comet 2;eclipse 3;comet 4"
            owe(0, 1, 1) 0
            debt(0, 4) 4
            """);
    }

    private static void payByItsYear() {
        String two = """
            land "child 0;child 0;gold 0 50;comet 5;comet 9"
            owe(0, 1, 20) 0
            """;
        R.holds(18, "It can be PAID from then on, if both live.", two + """
            pay(0) NOT
            go(8) 8
            pay(0) NOT
            go(1) 9
            pay(0) 30
            one(1, 4) 20
            """);
        R.holds(18, "It can be PAID from then on", two + """
            go(10) 10
            pay(0) 30
            pay(0) NOT
            ----
            land "child 0;child 0;gold 0 50;comet 99;comet 99"
            owe(0, 1, 20) 0
            go(98) 98
            pay(0) NOT
            go(1) 99
            pay(0) 30
            """);
        R.holds(18, "It is PAID: GOLD that he has left. UNKNOWN; NOT: it was, is not DUE yet", two + """
            pay(1) UNKNOWN
            pay(-1) UNKNOWN
            go(99) 99
            owe(0, 1, 1) 1
            pay(1) NOT
            pay(0) 30
            pay(0) NOT
            one(0, 4) 30
            one(1, 4) 20
            count(10) 4
            """);
    }

    private static void payByGoldAndLife() {
        R.holds(18, "one of both does not live, he has not so much.", """
            land "child 0;child 0;gold 0 20;comet 1;comet 2"
            owe(0, 1, 21) 0
            owe(0, 1, 20) 1
            owe(0, 1, 1) 2
            go(2) 2
            pay(0) NOT
            one(0, 4) 20
            pay(1) 0
            one(1, 4) 20
            pay(2) NOT
            pay(0) NOT
            count(10) 5
            """);
        R.holds(18, "one of both does not live, he has not so much.", """
            land "child 0;child 0;child 0;gold 0 99;gold 1 99;comet 1;comet 2"
            owe(0, 2, 1) 0
            owe(2, 1, 1) 1
            owe(0, 1, 99) 2
            go(2) 2
            die(2) 0
            pay(0) NOT
            pay(1) NOT
            pay(2) 0
            one(1, 4) 198
            one(0, 4) 0
            count(6) 198
            undo() 5
            undo() 4
            pay(0) 98
            pay(1) 0
            """);
    }

    private static void undo() {
        R.holds(19, "(also one by which nothing became other; the last 8 can be): how many can be undone yet. NOT: none.", """
            undo() NOT
            go(1) 1
            undo() 0
            undo() NOT
            count(2) 0
            """ + "go(1) 1\ngo(1) 2\ngo(1) 3\ngo(1) 4\ngo(1) 5\ngo(1) 6\ngo(1) 7\n" + """
            count(10) 7
            go(1) 8
            count(10) 8
            go(1) 9
            count(10) 8
            go(1) 10
            count(10) 8
            undo() 7
            undo() 6
            undo() 5
            undo() 4
            undo() 3
            undo() 2
            undo() 1
            undo() 0
            count(2) 2
            undo() NOT
            count(2) 2
            """);
        // what is refused is none of them
        R.holds(19, "Refused, and nothing changes", """
            land "child 0;child 0;child 5"
            go(0) OUTSIDE
            go(100) OUTSIDE
            wed(0, 0) UNKNOWN
            wed(0, 2) NOT
            die(2) NOT
            owe(0, 1, 0) OUTSIDE
            pay(0) UNKNOWN
            count(10) 0
            undo() NOT
            go(99) 99
            go(1) FULL
            count(10) 1
            undo() 0
            undo() NOT
            """);
        // and neither is a call beside the five
        R.holds(19, "The latest go(), wed(), die(), owe(), pay() is undone", """
            land "child 0;child 0;comet 3"
            go(2) 2
            keep(0) 2
            feasted(0, 1, 3, 0) 1
            write(32) 1
            erase() 1
            forget() 1
            feasted(0, 1, 3, 0) 1
            write "dark"
            count(10) 1
            undo() 0
            count(2) 0
            count(9) 1
            count(11) 4
            undo() NOT
            """);
    }

    private static void undoOfEach() {
        R.holds(19, "The latest go(), wed(), die(), owe(), pay() is undone", """
            land "child 0;widow 0;gold 0 21;comet 1;comet 2;child 0;to 2 0;law 0"
            owe(0, 1, 4) 0
            go(2) 2
            wed(0, 1) 1
            pay(0) 17
            die(0) 1
            one(1, 4) 12
            one(2, 4) 9
            undo() 4
            one(0, 4) 17
            one(1, 4) 4
            one(2, 4) 0
            one(0, 5) 1
            one(0, 6) 1
            one(1, 6) 0
            debt(0, 5) 1
            undo() 3
            one(0, 4) 21
            one(1, 4) 0
            debt(0, 5) 0
            undo() 2
            one(0, 6) NONE
            one(1, 6) NONE
            count(5) 0
            undo() 1
            count(2) 0
            count(7) 1
            undo() 0
            count(7) 0
            undo() NOT
            """);
        R.holds(19, "NOT: none.", """
            land "child 0"
            go(5) 5
            land "dark"
            undo() NOT
            count(10) 0
            """);
    }

    private static void undoAgainAndAgain() {
        R.holds(19, "An object is used for at most 512 calls after it has been made", "go(1) 1\nundo() 0\n".repeat(256));
        // 9 deeds, the last 8 of which are undone, again and again: the first of them stays, 2 YEARS each time
        StringBuilder lines = new StringBuilder();
        for (int round = 0; round < 28; round++) {
            for (int deed = 1; deed <= 9; deed++) {
                lines.append(String.format("go(%d) %d%n", deed % 2 + 1, 3 * deed / 2 + deed % 2 + round * 2));
            }
            lines.append("undo() 7\nundo() 6\nundo() 5\nundo() 4\nundo() 3\nundo() 2\nundo() 1\nundo() 0\n");
            lines.append("count(2) ").append(2 * round + 2).append("\n");
        }
        R.holds(19, "the last 8 can be): how many can be undone yet.", lines.toString());
    }

    private static void keep() {
        R.holds(20, "is kept (k 0, 1): the YEAR. UNKNOWN: no such k.", """
            keep(-1) UNKNOWN
            keep(2) UNKNOWN
            back(0) NOT
            back(1) NOT
            keep(0) 0
            back(1) NOT
            go(99) 99
            keep(1) 99
            back(0) 0
            back(1) 99
            keep(0) 99
            back(0) 99
            keep(2) UNKNOWN
            """);
        R.holds(20, "All as it is (but THE TEXT, FEASTED, what can be undone) is kept", """
            land "child 0;widow 0;gold 0 9;comet 1;comet 2;child 0"
            owe(0, 1, 3) 0
            go(2) 2
            wed(0, 1) 1
            keep(0) 2
            count(10) 3
            feasted(0, 1, 5, 0) 1
            write "dark"
            pay(0) 6
            die(0) 0
            owe(1, 2, 9) 1
            go(3) 5
            count(10) 7
            back(0) 2
            count(9) 1
            count(11) 4
            count(10) 0
            undo() NOT
            count(4) 7
            count(5) 1
            one(0, 6) 1
            one(1, 6) 0
            one(0, 4) 9
            one(1, 4) 0
            count(7) 1
            debt(0, 5) 0
            debt(1, 0) UNKNOWN
            """);
    }

    private static void back() {
        R.holds(21, "It is as it was kept, nothing can be undone: the YEAR. UNKNOWN; NOT: nothing was kept since the last text.", """
            back(-1) UNKNOWN
            back(2) UNKNOWN
            back(0) NOT
            back(1) NOT
            go(4) 4
            keep(1) 4
            back(0) NOT
            count(10) 1
            go(1) 5
            back(1) 4
            count(10) 0
            undo() NOT
            back(1) 4
            land "dark"
            back(0) NOT
            back(1) NOT
            keep(0) 0
            back(0) 0
            back(1) NOT
            """);
        R.holds(21, "nothing was kept since the last text.", """
            keep(0) 0
            fault "aunt" 0
            back(0) 0
            go(3) 3
            keep(0) 3
            undo() 0
            back(0) 3
            """);
    }

    private static void backBehindOther() {
        // what was kept stays as it was, whatever is done behind back()
        R.holds(21, "It is as it was kept", """
            land "child 0;child 0;gold 0 9"
            owe(0, 1, 3) 0
            keep(0) 0
            go(1) 1
            die(0) 0
            back(0) 0
            owe(1, 0, 4) 1
            wed(0, 1) 1
            go(9) 9
            die(1) 0
            back(0) 0
            count(7) 1
            count(5) 0
            count(4) 3
            count(6) 9
            owe(1, 0, 5) 1
            debt(1, 2) 5
            undo() 0
            count(7) 1
            undo() NOT
            """);
    }

    private static void refusedInTheirOrder() {
        R.holds(16, "NOT (not now: as told), FULL: the first of these that fits.", """
            land "child 0;child 0;child 0"
            die(2) 0
            owe(0, 0, 0) UNKNOWN
            owe(2, 3, 0) UNKNOWN
            owe(0, 2, 0) OUTSIDE
            owe(0, 2, 1) NOT
            """ + "owe(0, 1, 1) 0\nowe(0, 1, 1) 1\nowe(0, 1, 1) 2\nowe(0, 1, 1) 3\n"
            + "owe(0, 1, 1) 4\nowe(0, 1, 1) 5\nowe(0, 1, 1) 6\nowe(0, 1, 1) 7\n" + """
            owe(0, 0, 1) UNKNOWN
            owe(0, 1, 100) OUTSIDE
            owe(0, 2, 1) NOT
            owe(0, 1, 1) FULL
            """);
        R.holds(14, "UNKNOWN (no such one, COMET, DEBT; one and himself, where two are asked)", """
            land "child 0;child 9"
            wed(1, 1) UNKNOWN
            wed(1, 2) UNKNOWN
            wed(0, 1) NOT
            die(2) UNKNOWN
            debt(0, 6) UNKNOWN
            pay(0) UNKNOWN
            back(2) UNKNOWN
            back(1) NOT
            go(100) OUTSIDE
            go(99) 99
            go(100) OUTSIDE
            go(1) FULL
            """);
    }
}
