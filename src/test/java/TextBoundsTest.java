/** The boundary cases of promises 1 to 5: a new object, the text and where it is at fault. */
public final class TextBoundsTest {
    private static final Runs R = new Runs("TextBoundsTest");
    private static final String[] COMET_WORDS = {"comet", "cloud", "spark", "eclipse"};
    private static final String[] ONE_WORDS = {"child", "seer", "widow"};
    private static final String SIX = "comet 1;cloud 2;spark 3;eclipse 4;comet 5;comet 5";
    private static final String NINE = "child 1;seer 1;widow 1;child 1;seer 1;widow 1;child 1;seer 1;widow 1";

    public static void main(String[] args) {
        newObject();
        numbersOfLetters();
        lengthOfTheText();
        erase();
        numbersOfClauses();
        tooManyComets();
        tooManyPeople();
        years();
        gold();
        law();
        digits();
        whoCanBeNamed();
        parents();
        lettersBesideThoseThatStand();
        blanks();
        firstTokenAtFault();
        landing();
        orderOfClauses();
        behindTheClauses();
        clausesOfEachWord();
        R.end();
    }

    private static String repeat(String clause, int times) {
        return (clause + ";").repeat(times - 1) + clause;
    }

    private static void newObject() {
        R.holds(1, "Nobody, no COMETS.", """
            count(0) 0
            count(1) 0
            one(0, 0) UNKNOWN
            comet(0, 0) UNKNOWN
            kin(0, 0) UNKNOWN
            left(0, 0, 0, 0) UNKNOWN
            truth(0) UNKNOWN
            count(4) 0
            count(5) 0
            count(6) 0
            count(8) 0
            weddings(0) 0
            weddings(1) NONE
            weddings(2) NONE
            makes(0) NONE
            makes(1) NONE
            truths(0) 1
            truths(1) 0
            """);
        R.holds(1, "COMETS are 0, 1 .. as they come, 6 at most (none at first)", """
            count(1) 0
            comet(0, 1) UNKNOWN
            """);
        R.holds(1, "PEOPLE are 0, 1 .. as they come, 9 at most (none at first)", """
            count(0) 0
            one(0, 1) UNKNOWN
            """);
        R.holds(1, "LAW is a DEGREE 0 .. 6 (2 at first).", "count(3) 2");
        R.holds(1, "nothing is kept or can be undone.", """
            count(2) 0
            count(7) 0
            count(9) 0
            count(10) 0
            count(11) 0
            undo() NOT
            back(0) NOT
            back(1) NOT
            forget() 0
            erase() 0
            debt(0, 0) UNKNOWN
            """);
    }

    private static void numbersOfLetters() {
        R.holds(2, "A letter (its number, 0 .. 255) more of THE TEXT: how many it has. OUTSIDE; FULL.", """
            write(-1) OUTSIDE
            write(256) OUTSIDE
            write(-2147483648) OUTSIDE
            write(2147483647) OUTSIDE
            count(11) 0
            write(0) 1
            write(255) 2
            write(-1) OUTSIDE
            write(256) OUTSIDE
            count(11) 2
            write(254) 3
            write(1) 4
            erase() 4
            """);
        // 356 is the letter d (100) and 256: no letter is taken for another one
        R.holds(2, "A letter (its number, 0 .. 255) more of THE TEXT", """
            write(356) OUTSIDE
            write(-156) OUTSIDE
            write(65636) OUTSIDE
            write "dark"
            fault() NONE
            land() 1
            """);
    }

    private static void lengthOfTheText() {
        R.holds(2, "THE TEXT is a row of letters, 160 at most", "write \"" + "x".repeat(159) + "\"\n" + """
            write(120) 160
            write(120) FULL
            write(0) FULL
            write(255) FULL
            count(11) 160
            fault() 0
            erase() 160
            write(120) 1
            """);
        R.holds(2, "NOT (not now: as told), FULL: the first of these that fits.", "write \"" + "x".repeat(160) + "\"\n" + """
            write(256) OUTSIDE
            write(-1) OUTSIDE
            write(120) FULL
            """);
        R.holds(5, "THE TEXT is a row of letters, 160 at most", "write \"dark" + " ".repeat(156) + "\"\n" + """
            write(59) FULL
            fault() NONE
            land() 1
            count(11) 0
            ----
            """ + "write \"" + " ".repeat(156) + "dark\"\n" + """
            write(32) FULL
            land() 1
            """);
        R.holds(4, "The place of the FAULT (the letter with which the TOKEN begins, or the length); NONE.",
            "fault \"" + " ".repeat(155) + "comet\" 160\n----\nfault \"" + " ".repeat(159) + ";\" 159\n"
            + "----\nfault \"" + " ".repeat(160) + "\" 160\n");
    }

    private static void erase() {
        R.holds(3, "THE TEXT is empty: how many letters it had.", """
            erase() 0
            write(100) 1
            erase() 1
            erase() 0
            count(11) 0
            fault() 0
            land() NOT
            """ + "write \"" + "d".repeat(160) + "\"\n" + """
            erase() 160
            count(11) 0
            write(255) 1
            """);
        // neither is erasing one of the deeds, nor does it change what was told
        R.holds(19, "The latest go(), wed(), die(), owe(), pay() is undone", """
            land "child 3;comet 4"
            go(5) 5
            write "dark"
            erase() 4
            count(10) 1
            count(1) 1
            undo() 0
            count(2) 0
            """);
    }

    private static void numbersOfClauses() {
        R.holds(4, "CLAUSES with ; between, 1 to 14 (an empty TEXT ends too soon", """
            fault "" 0
            fault " " 1
            fault "dark" NONE
            fault ";" 0
            fault "dark;" 5
            fault "dark; " 6
            fault "dark;dark" NONE
            fault "dark;;dark" 5
            """);
        String most = repeat("dark", 14);
        R.holds(4, "behind the 14th no ; can stand)", "fault \"" + most + "\" NONE\nfault \"" + most + "  \" NONE\n"
            + "fault \"" + most + ";\" 69\nfault \"" + most + ";dark\" 69\n");
        R.holds(4, "behind the 14th no ; can stand)", "fault \"" + most + " ; dark\" 70\n"
            + "fault \"" + most + " dark\" 70\n");
        R.holds(5, "THE TEXT's CLAUSES are done, and it is empty then: how many there were.",
            "land \"dark\"\ncount(11) 0\nland \"" + repeat("dark", 13) + "\"\nland \"" + most + "\"\n" + """
            count(11) 0
            write(32) 1
            """);
    }

    private static void tooManyComets() {
        for (String word : COMET_WORDS) {
            R.holds(4, "in YEAR Y, a seventh cannot stand there (at its word)",
                "fault \"" + repeat(word + " 9", 6) + "\" NONE\n"
                + "fault \"" + SIX + ";" + word + " 9\" " + (SIX.length() + 1) + "\n"
                + "fault \"" + SIX + "; " + word + "\" " + (SIX.length() + 2) + "\n");
            R.holds(4, "COMETS are 0, 1 .. as they come, 6 at most (none at first)",
                "land \"" + SIX + "\"\ncount(1) 6\nfault \"" + word + " 9\" 0\ncount(1) 6\n"
                + "fault \"dark;" + word + " 9\" NONE\nfault \"land;" + word + " 9\" NONE\n");
        }
        R.holds(5, "COMETS are 0, 1 .. as they come, 6 at most (none at first)", """
            land "comet 9;comet 9;comet 9;comet 9;comet 9"
            count(1) 5
            fault "comet 9;comet 9" 8
            count(1) 5
            land "comet 9"
            count(1) 6
            comet(5, 1) 9
            comet(6, 1) UNKNOWN
            land "dark;eclipse 0"
            count(1) 1
            """);
        // what is CANCELLED is a COMET yet
        R.holds(4, "a seventh cannot stand there (at its word)", """
            fault "comet 1;eclipse 2;comet 3;eclipse 4;comet 5;eclipse 6;comet 7" 54
            """);
    }

    private static void tooManyPeople() {
        for (String word : ONE_WORDS) {
            R.holds(4, "born in Y, without parents, a tenth cannot stand there",
                "fault \"" + repeat(word + " 9", 9) + "\" NONE\n"
                + "fault \"" + NINE + ";" + word + " 9\" " + (NINE.length() + 1) + "\n"
                + "fault \"" + NINE + "; " + word + "\" " + (NINE.length() + 2) + "\n");
            R.holds(4, "PEOPLE are 0, 1 .. as they come, 9 at most (none at first)",
                "land \"" + NINE + "\"\ncount(0) 9\nfault \"" + word + " 9\" 0\ncount(0) 9\n"
                + "fault \"land;" + word + " 9\" NONE\nfault \"dark;" + word + " 9\" 5\n");
        }
        R.holds(5, "PEOPLE are 0, 1 .. as they come, 9 at most (none at first)", """
            land "child 9;child 9;child 9;child 9;child 9;child 9;child 9;child 9"
            count(0) 8
            fault "child 9;child 9" 8
            count(0) 8
            land "widow 99"
            count(0) 9
            one(8, 1) 99
            one(9, 1) UNKNOWN
            """);
        // who died is one of PEOPLE yet
        R.holds(4, "a tenth cannot stand there", "land \"" + NINE + "\"\n" + """
            go(1) 1
            die(0) 0
            fault "child 9" 0
            """);
    }

    private static void years() {
        for (String word : COMET_WORDS) {
            yearsOf(word);
        }
        for (String word : ONE_WORDS) {
            yearsOf(word);
        }
        R.holds(5, "YEARS are 0 .. 99.", """
            land "child 0;seer 99;comet 0;eclipse 99"
            one(0, 1) 0
            one(1, 1) 99
            comet(0, 1) 0
            comet(1, 1) 99
            """);
    }

    private static void yearsOf(String word) {
        int at = word.length() + 1;
        R.holds(4, "YEARS are 0 .. 99.", "fault \"" + word + " 0\" NONE\nfault \"" + word + " 99\" NONE\n"
            + "fault \"" + word + " 100\" " + at + "\nfault \"" + word + " -1\" " + at + "\n"
            + "fault \"" + word + "\" " + word.length() + "\nfault \"" + word + " " + word + "\" " + at + "\n");
    }

    private static void gold() {
        R.holds(4, "with GOLD (0 .. 99; 0 at first).", """
            fault "child 1;gold 0 0" NONE
            fault "child 1;gold 0 99" NONE
            fault "child 1;gold 0 100" 15
            fault "child 1;gold 0 -1" 15
            fault "child 1;gold 0" 14
            fault "child 1;gold" 12
            """);
        R.holds(5, "with GOLD (0 .. 99; 0 at first).", """
            land "child 1;child 1;child 1;gold 0 99;gold 1 0"
            one(0, 4) 99
            one(1, 4) 0
            one(2, 4) 0
            count(6) 99
            fault "gold 2 100" 7
            one(2, 4) 0
            """);
    }

    private static void law() {
        R.holds(4, "LAW is a DEGREE 0 .. 6 (2 at first).", """
            fault "law 0" NONE
            fault "law 6" NONE
            fault "law 06" NONE
            fault "law 7" 4
            fault "law 07" 4
            fault "law 10" 4
            fault "law 99" 4
            fault "law -1" 4
            fault "law" 3
            """);
        R.holds(5, "LAW is a DEGREE 0 .. 6 (2 at first).", """
            land "law 0"
            count(3) 0
            land "law 6"
            count(3) 6
            fault "law 7" 4
            count(3) 6
            land "dark"
            count(3) 6
            land "land"
            count(3) 2
            """);
    }

    private static void digits() {
        R.holds(4, "numbers of 1 or 2 digits", """
            fault "comet " 6
            fault "comet 5" NONE
            fault "comet 05" NONE
            fault "comet 005" 6
            fault "comet 55" NONE
            fault "comet 555" 6
            fault "law 000" 4
            """);
        // 4294967296 is 0 for a machine of 32 bits, 18446744073709551616 for one of 64
        R.holds(4, "that cannot stand there (a number out of its bounds, of more digits, also)", """
            fault "comet 4294967296" 6
            fault "comet 18446744073709551617" 6
            fault "child 1;gold 4294967296 1" 13
            fault "child 1;gold 000 1" 13
            fault "child 1;gold 0 001" 15
            fault "child 1;child 1;to 001 0" 19
            fault "child 1;child 1;to 1 000" 21
            fault "comet 100;law 7" 6
            """);
    }

    private static void whoCanBeNamed() {
        R.holds(4, "PEOPLE such as there are behind the CLAUSES ahead", """
            fault "gold 0 1" 5
            fault "gold 0 1;child 0" 5
            fault "child 0;gold 0 1" NONE
            fault "child 0;gold 1 1" 13
            fault "child 0;gold 1 1;child 0" 13
            fault "child 0;child 0;gold 1 1" NONE
            fault "child 0;child 0;land;gold 0 1" 26
            fault "child 0;child 0;dark;gold 1 1" NONE
            """);
        R.holds(4, "PEOPLE such as there are behind the CLAUSES ahead", """
            fault "to 0 0" 3
            fault "child 0;to 1 0" 11
            fault "child 0;child 0;to 1 0" NONE
            fault "child 0;child 0;to 2 0" 19
            fault "child 0;child 0;to 2 0;child 0" 19
            fault "child 0;child 0;of 2 0 1" 19
            fault "child 0;child 0;child 0;of 2 0 1" NONE
            """);
        R.holds(4, "PEOPLE such as there are behind the CLAUSES ahead", "land \"" + NINE + "\"\n" + """
            fault "gold 8 1" NONE
            fault "gold 9 1" 5
            fault "to 8 7" NONE
            fault "to 9 7" 3
            fault "of 8 7 6" NONE
            fault "of 9 7 6" 3
            fault "land;gold 8 1" 10
            """);
    }

    private static void parents() {
        String three = "land \"child 0;child 0;child 0;child 0\"\n";
        R.holds(4, "M and F less than I, F not M (else a FAULT at it)", three + """
            fault "of 3 0 2" NONE
            fault "of 3 2 0" NONE
            fault "of 3 3 0" 5
            fault "of 3 0 3" 7
            fault "of 3 4 0" 5
            fault "of 3 0 4" 7
            fault "of 3 0 0" 7
            fault "of 3 2 2" 7
            fault "of 3 02 2" 8
            fault "of 2 0 1" NONE
            """);
        R.holds(4, "M and F less than I, F not M (else a FAULT at it)", three + """
            fault "of 1 0 0" 7
            fault "of 1 0 1" 7
            fault "of 1 0" 6
            fault "of 0 0 0" 5
            fault "of 0" 4
            fault "to 3 2" NONE
            fault "to 3 3" 5
            fault "to 1 0" NONE
            fault "to 1 1" 5
            fault "to 0 0" 5
            fault "to 0" 4
            """);
        R.holds(5, "of: I has MOTHER M and FATHER F, to: I has MOTHER M alone, in place of what was told", three + """
            land "of 3 0 2"
            one(3, 2) 0
            one(3, 3) 2
            fault "of 3 1 1" 7
            one(3, 2) 0
            one(3, 3) 2
            land "to 3 1"
            one(3, 2) 1
            one(3, 3) NONE
            land "of 3 2 0"
            one(3, 2) 2
            one(3, 3) 0
            one(2, 2) NONE
            one(2, 3) NONE
            """);
        R.holds(5, "with a MOTHER and a FATHER, or none of both, or a MOTHER alone, of those told ahead", """
            land "child 0;child 0;child 0;to 1 0;of 2 1 0"
            one(0, 2) NONE
            one(0, 3) NONE
            one(1, 2) 0
            one(1, 3) NONE
            one(2, 2) 1
            one(2, 3) 0
            """);
    }

    private static void lettersBesideThoseThatStand() {
        // the letters just ahead of a and behind z, of 0 and 9, of the blank and of ;
        R.holds(4, "small letters a .. z", """
            fault "`dark" 0
            fault "dark`" 4
            fault "{dark" 0
            fault "dark{" 4
            fault "Dark" 0
            fault "darK" 0
            fault "DARK" 0
            fault "zdark" 0
            fault "darka" 0
            """);
        R.holds(4, "A FAULT is at the first TOKEN (a row of small letters, a row of digits, any other letter)", """
            fault "law /" 4
            fault "law :" 4
            fault "law 1/" 5
            fault "law 1:" 5
            fault "law 1<" 5
            fault "law 1;" 6
            fault "law 1,law 1" 5
            fault "law 1.5" 5
            fault "law +1" 4
            """);
        StringBuilder others = new StringBuilder();
        for (int letter : new int[] {0, 9, 10, 13, 31, 33, 127, 128, 160, 255}) {
            others.append("write \"dark\"\nwrite(").append(letter).append(") 5\nfault() 4\nland() NOT\nerase() 5\n");
        }
        R.holds(4, "blanks (32) may stand ahead of, between and behind TOKENS", others.toString());
    }

    private static void blanks() {
        R.holds(4, "blanks (32) may stand ahead of, between and behind TOKENS", """
            fault "dark" NONE
            fault " dark" NONE
            fault "dark " NONE
            fault "  dark  ;  dark  " NONE
            fault "   child   1   ;   gold   0   5   " NONE
            fault "da rk" 0
            fault "dark ; d ark" 7
            """);
        R.holds(4, "none is needed but between two words, two numbers.", """
            fault "child1;child2;child3;to1 0;of2 0 1;gold0 99;law6" NONE
            fault "darkdark" 0
            fault "dark dark" 5
            fault "child 1;gold 00" 15
            fault "child 1;gold0 0" NONE
            fault "child 1;child 1;to10" 18
            """);
        R.holds(4, "numbers of 1 or 2 digits, blanks (32) may stand ahead of, between and behind TOKENS", """
            fault "comet 1 2" 8
            fault "comet 1 " NONE
            """);
    }

    private static void firstTokenAtFault() {
        R.holds(4, "that cannot stand there (a number out of its bounds, of more digits, also), or at the end", """
            fault "aunt" 0
            fault "dark 1" 5
            fault "land 1" 5
            fault "comet five" 6
            fault "law 1 2" 6
            fault "1" 0
            fault "comet 100 100" 6
            fault "comet 1;comet 100;aunt" 14
            """);
        R.holds(4, "or at the end, if it comes too soon.", """
            fault "comet" 5
            fault "comet  " 7
            fault "dark;" 5
            fault "dark;  " 7
            fault "child 0;gold" 12
            fault "child 0;gold 0" 14
            fault "child 0;gold 0 " 15
            fault "child 0;child 0;of" 18
            fault "child 0;child 0;of 1" 20
            fault "child 0;child 0;of 1 0" 22
            """);
        R.holds(4, "The place of the FAULT (the letter with which the TOKEN begins, or the length); NONE.", """
            fault "   aunt" 3
            fault "dark;   aunt" 8
            fault "comet    100" 9
            fault() 9
            fault() 9
            count(11) 12
            erase() 12
            fault() 0
            """);
    }

    private static void landing() {
        R.holds(5, "NOT: it has a FAULT.", """
            land() NOT
            write(32) 1
            land() NOT
            count(11) 1
            erase() 1
            land "child 5;comet 7;law 4"
            fault "child 1;comet 2;law 3;dark;aunt" 27
            count(11) 31
            count(0) 1
            count(1) 1
            count(3) 4
            one(0, 1) 5
            comet(0, 1) 7
            """);
        R.holds(5, "THE TEXT's CLAUSES are done, and it is empty then: how many there were.", """
            land "dark"
            count(11) 0
            fault() 0
            land() NOT
            write "land"
            land() 1
            land() NOT
            """);
    }

    private static void orderOfClauses() {
        R.holds(5, "CLAUSES are done in their order.", """
            land "law 3;law 5;child 1;gold 0 7;gold 0 8;comet 1;dark;spark 2"
            count(3) 5
            one(0, 4) 8
            count(1) 1
            comet(0, 0) 2
            land "law 1;land"
            count(3) 2
            count(0) 0
            count(1) 0
            land "land;law 1"
            count(3) 1
            """);
        R.holds(5, "land: all as at first", """
            land "child 1;gold 0 9;law 6;comet 3"
            land "land;child 2"
            count(0) 1
            count(1) 0
            count(3) 2
            one(0, 1) 2
            one(0, 2) NONE
            one(0, 4) 0
            """);
        R.holds(5, "dark: no COMETS", """
            land "child 1;law 6;comet 3;eclipse 4"
            comet(0, 2) 1
            land "dark"
            count(1) 0
            count(0) 1
            count(3) 6
            comet(0, 0) UNKNOWN
            land "dark"
            land "comet 3"
            comet(0, 2) 0
            comet(1, 0) UNKNOWN
            """);
    }

    private static void behindTheClauses() {
        String busy = """
            land "child 0;widow 0;child 0;to 2 0;gold 0 50;gold 2 6;comet 1;comet 2;law 0"
            owe(0, 1, 5) 0
            go(2) 2
            wed(0, 1) 1
            pay(0) 45
            die(2) 1
            feasted(0, 1, 2, 0) 1
            keep(0) 2
            keep(1) 2
            """;
        R.holds(5, "Behind them it is YEAR 0, all live, nobody is married, owes, GOLD is as told", busy + """
            count(6) 56
            fault "aunt" 0
            count(2) 2
            count(9) 1
            count(10) 5
            land "dark"
            count(2) 0
            count(4) 7
            count(5) 0
            one(0, 6) NONE
            one(1, 6) NONE
            count(7) 0
            debt(0, 0) UNKNOWN
            one(0, 4) 50
            one(1, 4) 0
            one(2, 4) 6
            """);
        R.holds(5, "nothing is FEASTED, nothing is kept or can be undone.", busy + """
            land "dark"
            count(9) 0
            count(10) 0
            undo() NOT
            back(0) NOT
            back(1) NOT
            forget() 0
            truths(0) 1
            keep(1) 0
            back(0) NOT
            back(1) 0
            """);
    }

    private static void clausesOfEachWord() {
        String three = "land \"child 0;child 0;child 0\"\n";
        String[] clauses = {"land", "comet 1", "cloud 1", "spark 1", "eclipse 1", "child 1", "seer 1", "widow 1",
            "of 2 1 0", "to 1 0", "gold 1 1", "law 1", "dark"};
        StringBuilder lines = new StringBuilder();
        for (String clause : clauses) {
            int length = clause.length();
            lines.append("----\n").append(three);
            lines.append("fault \"").append(clause).append("\" NONE\n");
            lines.append("fault \"").append(clause).append(".\" ").append(length).append("\n");
            lines.append("fault \"").append(clause).append(" 1\" ").append(length + 1).append("\n");
            int lastBlank = clause.lastIndexOf(' ');
            if (lastBlank > 0) {
                lines.append("fault \"").append(clause, 0, lastBlank).append("\" ").append(lastBlank).append("\n");
                lines.append("fault \"").append(clause, 0, lastBlank).append(";dark\" ").append(lastBlank).append("\n");
            }
        }
        R.holds(4, "to I M. gold I G. law D. dark. (As written here, without points;", lines.toString());
        R.holds(4, "each is one of: land. comet Y. cloud Y. spark Y. eclipse Y. child Y. seer Y. widow Y. of I M F.", """
            fault "lan" 0
            fault "lands" 0
            fault "comets 1" 0
            fault "star 1" 0
            fault "kin 1" 0
            fault "a" 0
            fault "1" 0
            fault "landdark" 0
            fault "dark dark" 5
            """);
        R.holds(5, "comet: a TRUE one more, cloud: CLOUDED, spark: FALSE, eclipse: ECLIPSED, in YEAR Y", """
            land "comet 4;cloud 3;spark 2;eclipse 1"
            count(1) 4
            comet(0, 0) 0
            comet(1, 0) 1
            comet(2, 0) 2
            comet(3, 0) 3
            comet(0, 1) 4
            comet(1, 1) 3
            comet(2, 1) 2
            comet(3, 1) 1
            """);
        R.holds(5, "child: one of PEOPLE more, PLAIN, seer, widow, born in Y, without parents", """
            land "child 4;seer 3;widow 2"
            count(0) 3
            one(0, 0) 0
            one(1, 0) 1
            one(2, 0) 2
            one(0, 1) 4
            one(1, 1) 3
            one(2, 1) 2
            one(2, 2) NONE
            one(2, 3) NONE
            """);
    }
}
