/** Promises 1 to 11: what is told. */
public final class ToldTest {
    private static final Checks C = new Checks("ToldTest");
    /** 0, 1 and the children 2, 3 of both, 4 the child of 2 alone. */
    private static final String FAMILY = "child 1;seer 2;child 20;seer 22;of 2 0 1;of 3 0 1;widow 40;to 4 2";

    public static void main(String[] args) {
        newObject();
        write();
        erase();
        faultsOfWordsAndSigns();
        faultsOfNumbers();
        faultsOfNumbersOfThings();
        faultsOfParents();
        land();
        one();
        cometCancelled();
        cometSeen();
        as();
        cometAs();
        degreeAndKin();
        kinThroughCloudsAndSparks();
        C.end();
    }

    private static void newObject() {
        C.holds(1, "Nobody, no COMETS.");
        CometKin x = new CometKin();
        int[] want = {0, 0, 0, 2, 0, 0, 0, 0, 0, 0, 0, 0, CometKin.OUTSIDE};
        for (int what = 0; what < want.length; what++) {
            C.due("count(" + what + ")", x.count(what), want[what]);
        }
        C.holds(32, "9 FEASTED, 10 how many can be undone, 11 letters of THE TEXT. OUTSIDE.");
        C.due("count(-1)", x.count(-1), CometKin.OUTSIDE);
        C.holds(1, "nothing is kept or can be undone.");
        C.due("back(0)", x.back(0), CometKin.NOT);
        C.due("undo()", x.undo(), CometKin.NOT);
        C.due("weddings(0)", x.weddings(0), 0);
        C.due("truths(0)", x.truths(0), 1);
        C.due("makes(0)", x.makes(0), CometKin.NONE);
    }

    private static void write() {
        C.holds(2, "A letter (its number, 0 .. 255) more of THE TEXT: how many it has.");
        CometKin x = new CometKin();
        C.due("write(-1)", x.write(-1), CometKin.OUTSIDE);
        C.due("write(256)", x.write(256), CometKin.OUTSIDE);
        C.due("write(0)", x.write(0), 1);
        C.due("write(255)", x.write(255), 2);
        C.holds(2, "THE TEXT is a row of letters, 160 at most");
        for (int letters = 3; letters <= 160; letters++) {
            C.due("write(32)", x.write(32), letters);
        }
        C.due("write(32), the 161st", x.write(32), CometKin.FULL);
        C.due("write(256), the 161st", x.write(256), CometKin.OUTSIDE);
        C.due("count(11)", x.count(11), 160);
    }

    private static void erase() {
        C.holds(3, "THE TEXT is empty: how many letters it had.");
        CometKin x = new CometKin();
        C.due("erase()", x.erase(), 0);
        C.tell(x, "dark");
        C.due("count(11)", x.count(11), 4);
        C.due("erase()", x.erase(), 4);
        C.due("erase()", x.erase(), 0);
        C.due("count(11)", x.count(11), 0);
        C.due("write('d')", x.write('d'), 1);
    }

    private static void faultsOfWordsAndSigns() {
        C.holds(4, "The place of the FAULT (the letter with which the TOKEN begins, or the length); NONE.");
        CometKin x = new CometKin();
        C.faultAt(x, "", 0);
        C.faultAt(x, "   ", 3);
        C.faultAt(x, "dark", CometKin.NONE);
        C.faultAt(x, "  dark  ;  land  ", CometKin.NONE);
        C.faultAt(x, "darkx", 0);
        C.faultAt(x, " dar k", 1);
        C.faultAt(x, "Dark", 0);
        C.faultAt(x, "dark dark", 5);
        C.faultAt(x, "dark 1", 5);
        C.faultAt(x, "dark;", 5);
        C.faultAt(x, "dark; ", 6);
        C.faultAt(x, ";dark", 0);
        C.faultAt(x, "dark;;dark", 5);
        C.faultAt(x, "dark\tland", 4);
        C.faultAt(x, "dark\u00e9", 4);
        C.faultAt(x, "7", 0);
        C.faultAt(x, "comet", 5);
        C.faultAt(x, "comet  ", 7);
        C.faultAt(x, "comet comet", 6);
        C.faultAt(x, "comet;", 5);
        C.faultAt(x, "comet 5 6", 8);
        C.faultAt(x, "comet5cloud", 6);
        C.faultAt(x, "comet5;cloud6 ;spark 7; eclipse 8", CometKin.NONE);
        C.faultAt(x, "co met 5", 0);
        C.faultAt(x, "child -1", 6);
        C.faultAt(x, "child 1.", 7);
    }

    private static void faultsOfNumbers() {
        C.holds(4, "that cannot stand there (a number out of its bounds, of more digits, also)");
        CometKin x = new CometKin();
        C.faultAt(x, "comet 99", CometKin.NONE);
        C.faultAt(x, "comet 00", CometKin.NONE);
        C.faultAt(x, "comet 100", 6);
        C.faultAt(x, "comet 000", 6);
        C.faultAt(x, "comet 4294967296", 6);
        C.faultAt(x, "law 6", CometKin.NONE);
        C.faultAt(x, "law 06", CometKin.NONE);
        C.faultAt(x, "law 7", 4);
        C.faultAt(x, "law 006", 4);
        C.faultAt(x, "gold 0 1", 5);
        C.faultAt(x, "child 1;gold 0 99", CometKin.NONE);
        C.faultAt(x, "child 1;gold 0 100", 15);
        C.faultAt(x, "child 1;gold 1 9", 13);
        C.faultAt(x, "child 1;gold 0", 14);
        C.faultAt(x, "child 1;gold 01", 13);
        C.faultAt(x, "child 1;gold 00 1", CometKin.NONE);
    }

    private static void faultsOfNumbersOfThings() {
        C.holds(4, "a seventh cannot stand there (at its word)");
        CometKin x = new CometKin();
        C.faultAt(x, "comet 1;cloud 1;spark 1;eclipse 1;comet 1;comet 1", CometKin.NONE);
        C.faultAt(x, "comet 1;cloud 1;spark 1;eclipse 1;comet 1;comet 1; spark 1", 51);
        C.faultAt(x, "comet 1;cloud 1;spark 1;eclipse 1;comet 1;comet 1;dark;spark 1", CometKin.NONE);
        C.faultAt(x, "comet 1;cloud 1;spark 1;eclipse 1;comet 1;comet 1;land;spark 1", CometKin.NONE);
        C.holds(4, "a tenth cannot stand there");
        String nine = "seer 1;seer 1;seer 1;child 1;child 1;child 1;widow 1;widow 1;widow 1";
        C.faultAt(x, nine, CometKin.NONE);
        C.faultAt(x, nine + ";child", nine.length() + 1);
        C.faultAt(x, nine + ";seer 1", nine.length() + 1);
        C.faultAt(x, nine + ";widow 100", nine.length() + 1);
        C.faultAt(x, nine + ";land;widow 1", CometKin.NONE);
        C.faultAt(x, nine + ";dark;widow 1", nine.length() + 6);
        C.faultAt(x, nine + ";land;gold 0 1", nine.length() + 11);
        C.holds(4, "behind the 14th no ; can stand)");
        String fourteen = "dark;dark;dark;dark;dark;dark;dark;dark;dark;dark;dark;dark;dark;dark";
        C.faultAt(x, fourteen, CometKin.NONE);
        C.faultAt(x, fourteen + " ", CometKin.NONE);
        C.faultAt(x, fourteen + " ;", fourteen.length() + 1);
        C.faultAt(x, fourteen + ";dark", fourteen.length());
        C.holds(4, "PEOPLE such as there are behind the CLAUSES ahead");
        C.land(x, nine, 9);
        C.faultAt(x, "child 1", 0);
        C.faultAt(x, "gold 8 1", CometKin.NONE);
        C.faultAt(x, "gold 9 1", 5);
    }

    private static void faultsOfParents() {
        C.holds(4, "M and F less than I, F not M (else a FAULT at it)");
        CometKin x = C.landed("child 1;child 1;child 1");
        C.faultAt(x, "of 2 0 1", CometKin.NONE);
        C.faultAt(x, "of 2 1 0", CometKin.NONE);
        C.faultAt(x, "of 3 0 1", 3);
        C.faultAt(x, "of 2 2 0", 5);
        C.faultAt(x, "of 2 3 0", 5);
        C.faultAt(x, "of 2 0 0", 7);
        C.faultAt(x, "of 2 0 2", 7);
        C.faultAt(x, "of 2 0", 6);
        C.faultAt(x, "of 2 0 ;", 7);
        C.faultAt(x, "of 1 0 0", 7);
        C.faultAt(x, "of 1 0 1", 7);
        C.faultAt(x, "of 0 0 1", 5);
        C.faultAt(x, "of 0", 4);
        C.faultAt(x, "of 2 0 1 1", 9);
        C.faultAt(x, "to 1 0", CometKin.NONE);
        C.faultAt(x, "to 1 1", 5);
        C.faultAt(x, "to 0 0", 5);
        C.faultAt(x, "to 3 0", 3);
        C.faultAt(x, "to 2 0 1", 7);
        C.faultAt(x, "to2 0", CometKin.NONE);
        C.faultAt(x, "of 20 1", 3);
    }

    private static void land() {
        C.holds(5, "THE TEXT's CLAUSES are done, and it is empty then: how many there were.");
        CometKin x = new CometKin();
        C.due("land of nothing", x.land(), CometKin.NOT);
        C.land(x, "child 1;gold 0 7;law 5;comet 9", 4);
        C.due("letters", x.count(11), 0);
        C.land(x, "child 2", 1);
        C.due("people", x.count(0), 2);
        C.due("law", x.count(3), 5);
        C.due("gold", x.count(6), 7);
        C.land(x, "gold 0 8;gold 0 9;gold 1 4", 3);
        C.due("gold", x.count(6), 13);
        C.holds(5, "Behind them it is YEAR 0, all live, nobody is married, owes, GOLD is as told, nothing is FEASTED");
        x.go(12);
        x.wed(0, 1);
        x.owe(0, 1, 3);
        x.feasted(0, 1, 4, 0);
        x.keep(0);
        C.due("die", x.die(1), 0);
        C.due("gold", x.count(6), 9);
        C.tell(x, "comet");
        C.due("land with a fault", x.land(), CometKin.NOT);
        C.due("feasts", x.count(9), 1);
        C.due("year", x.count(2), 12);
        C.land(x, "law 0", 1);
        int[] want = {2, 1, 0, 0, 3, 0, 13, 0, 0, 0, 0, 0};
        for (int what = 0; what < want.length; what++) {
            C.due("count(" + what + ") behind a text", x.count(what), want[what]);
        }
        C.due("back(0)", x.back(0), CometKin.NOT);
        C.due("undo()", x.undo(), CometKin.NOT);
        C.holds(5, "land: all as at first");
        C.land(x, "land", 1);
        int[] first = {0, 0, 0, 2, 0, 0, 0, 0, 0, 0, 0, 0};
        for (int what = 0; what < first.length; what++) {
            C.due("count(" + what + ") behind land", x.count(what), first[what]);
        }
        C.land(x, "child 5", 1);
        C.due("gold at first", x.one(0, 4), 0);
        C.holds(5, "CLAUSES are done in their order.");
        C.land(x, "comet 5;dark;law 3;land;spark 4", 5);
        C.due("comets", x.count(1), 1);
        C.due("people", x.count(0), 0);
        C.due("law", x.count(3), 2);
        C.land(x, "child 7;gold 0 5;gold 0 0", 3);
        C.due("gold of 0", x.count(6), 0);
        C.land(x, "comet 7;dark", 2);
        C.due("no comets", x.count(1), 0);
        C.land(x, "seer 0;seer 0;land;child 0;cloud 1", 5);
        C.due("who was a seer ahead of land is told no more", x.as(0, 1), 0);
        C.land(x, "eclipse 2;dark;comet 1", 3);
        C.due("what was eclipsed ahead of dark is told no more", x.comet(0, 2), 0);
    }

    private static void one() {
        C.holds(6, "Of one: KIND (what 0), YEAR of his BIRTH (1), MOTHER (2; NONE), FATHER (3; NONE), GOLD (4)");
        CometKin x = C.landed(FAMILY, "gold 3 33");
        int[][] want = {{0, 1, -1, -1, 0, 1, -1}, {1, 2, -1, -1, 0, 1, -1}, {0, 20, 0, 1, 0, 1, -1},
            {1, 22, 0, 1, 33, 1, -1}, {2, 40, 2, -1, 0, 1, -1}};
        for (int one = 0; one < want.length; one++) {
            for (int what = 0; what < 7; what++) {
                C.due("one(" + one + ", " + what + ")", x.one(one, what), want[one][what]);
            }
        }
        C.due("one(5, 0)", x.one(5, 0), CometKin.UNKNOWN);
        C.due("one(-1, 9)", x.one(-1, 9), CometKin.UNKNOWN);
        C.due("one(4, 7)", x.one(4, 7), CometKin.OUTSIDE);
        C.due("one(4, -1)", x.one(4, -1), CometKin.OUTSIDE);
        C.holds(6, "1 he lives, 0 (5), to whom married (6; NONE). UNKNOWN; OUTSIDE.");
        x.go(2);
        x.wed(1, 0);
        C.due("one(0, 6)", x.one(0, 6), 1);
        C.due("one(1, 6)", x.one(1, 6), 0);
        x.die(0);
        C.due("one(0, 5)", x.one(0, 5), 0);
        C.due("one(0, 6)", x.one(0, 6), CometKin.NONE);
        C.due("one(1, 6)", x.one(1, 6), CometKin.NONE);
        C.holds(5, "to: I has MOTHER M alone, in place of what was told");
        C.land(x, "to 3 2", 1);
        C.due("one(3, 2), told anew", x.one(3, 2), 2);
        C.due("one(3, 3), told anew", x.one(3, 3), CometKin.NONE);
        C.land(x, "of 3 2 1", 1);
        C.due("one(3, 3), told again", x.one(3, 3), 1);
    }

    private static void cometCancelled() {
        C.holds(7, "it CANCELS the latest one ahead of it (by YEAR, of one YEAR by number; no ECLIPSED one)");
        // the year goes ahead of the number; an eclipsed one is never cancelled
        CometKin x = C.landed("seer 0;child 0", "comet 50;comet 30;cloud 40;eclipse 45;eclipse 46;spark 46");
        int[][] want = {{0, 50, 0, 3}, {0, 30, 0, 3}, {1, 40, 1, 0}, {3, 45, 0, 0}, {3, 46, 0, 0}, {2, 46, 0, 2}};
        for (int comet = 0; comet < want.length; comet++) {
            for (int what = 0; what < 4; what++) {
                C.due("comet(" + comet + ", " + what + ")", x.comet(comet, what), want[comet][what]);
            }
        }
        C.due("comet(6, 0)", x.comet(6, 0), CometKin.UNKNOWN);
        C.due("comet(-1, 0)", x.comet(-1, 0), CometKin.UNKNOWN);
        C.due("comet(5, 4)", x.comet(5, 4), CometKin.OUTSIDE);
        C.due("comet(5, -1)", x.comet(5, -1), CometKin.OUTSIDE);
        // of one year by number: the one behind is not ahead
        x = C.landed("child 0;comet 7;comet 7;eclipse 7;comet 7");
        C.due("number 0", x.comet(0, 2), 0);
        C.due("number 1", x.comet(1, 2), 1);
        C.due("number 3", x.comet(3, 2), 0);
        // none ahead: it cancels nothing
        x = C.landed("child 0;eclipse 7;comet 7;comet 8");
        C.due("cancelled 1", x.comet(1, 2), 0);
        C.due("cancelled 2", x.comet(2, 2), 0);
        // a later text can put one between
        C.land(x, "eclipse 9;comet 8", 2);
        C.due("cancelled 2, as 4 stands behind it", x.comet(2, 2), 0);
        C.due("cancelled 4", x.comet(4, 2), 1);
    }

    private static void cometSeen() {
        C.holds(7, "A TRUE COMET is SEEN by all, a CLOUDED one by SEERS alone, a FALSE one by all but SEERS");
        CometKin x = C.landed("seer 90;child 90;widow 90;comet 1;cloud 2;spark 3;eclipse 0");
        C.due("a true one", x.comet(0, 3), 7);
        C.due("a clouded one", x.comet(1, 3), 1);
        C.due("a false one", x.comet(2, 3), 6);
        C.due("an eclipsed one", x.comet(3, 3), 0);
    }

    private static void as() {
        C.holds(8, "One taken as a KIND (0 .. 3, as they are over one another): COMETS that he SEES, by bits.");
        CometKin x = C.landed("child 1;seer 1;widow 1;comet 1;cloud 2;spark 3;eclipse 0");
        int no = CometKin.NOT;
        int[][] want = {{5, 5, no, no}, {3, no, 3, no}, {5, 5, no, 5}};
        for (int one = 0; one < 3; one++) {
            for (int kind = 0; kind < 4; kind++) {
                C.due("as(" + one + ", " + kind + ")", x.as(one, kind), want[one][kind]);
            }
            C.due("as(" + one + ", 4)", x.as(one, 4), CometKin.OUTSIDE);
            C.due("as(" + one + ", -1)", x.as(one, -1), CometKin.OUTSIDE);
        }
        C.due("as(3, 9)", x.as(3, 9), CometKin.UNKNOWN);
        C.due("as(-1, 0)", x.as(-1, 0), CometKin.UNKNOWN);
        C.land(x, "eclipse 4", 1);
        C.due("as(0, 0), one cancelled", x.as(0, 0), 1);
    }

    private static void cometAs() {
        C.holds(9, "A COMET taken as a KIND (0 .. 4): 1 a PLAIN one would SEE it, were it not CANCELLED");
        // the last one cancels the one ahead of it
        CometKin x = C.landed("comet 1;cloud 2;spark 3;eclipse 4");
        int no = CometKin.NOT;
        int[][] want = {{3, 3, no, no, no}, {2, 2, 2, no, no}, {1, no, no, 1, no}, {0, 0, no, no, 0}};
        for (int comet = 0; comet < 4; comet++) {
            for (int kind = 0; kind < 5; kind++) {
                C.due("cometAs(" + comet + ", " + kind + ")", x.cometAs(comet, kind), want[comet][kind]);
            }
            C.due("cometAs(" + comet + ", 5)", x.cometAs(comet, 5), CometKin.OUTSIDE);
            C.due("cometAs(" + comet + ", -1)", x.cometAs(comet, -1), CometKin.OUTSIDE);
        }
        C.due("cometAs(4, 9)", x.cometAs(4, 9), CometKin.UNKNOWN);
        C.due("cometAs(-1, 0)", x.cometAs(-1, 0), CometKin.UNKNOWN);
    }

    private static void degreeAndKin() {
        C.holds(10, "DEGREE of two in a YEAR; NONE: they are not KIN. UNKNOWN (one and himself: 0); OUTSIDE.");
        CometKin x = C.landed(FAMILY, "comet 20;comet 39;comet 40");
        C.due("ahead of the comet", x.degree(0, 2, 19), CometKin.NONE);
        C.due("in the year of birth and comet", x.degree(0, 2, 20), 1);
        C.due("and back", x.degree(2, 0, 20), 1);
        C.due("through a child", x.degree(0, 1, 20), 2);
        C.due("3's comet", x.degree(0, 3, 38), CometKin.NONE);
        C.due("3's comet came", x.degree(0, 3, 39), 1);
        C.due("two of the same", x.degree(2, 3, 39), 2);
        C.due("4 was born", x.degree(4, 3, 39), CometKin.NONE);
        C.due("4 has a comet", x.degree(4, 3, 40), 3);
        C.due("of one to himself", x.degree(4, 4, 0), 0);
        C.due("one to himself, no year", x.degree(4, 4, 100), CometKin.OUTSIDE);
        C.due("no year", x.degree(0, 1, -1), CometKin.OUTSIDE);
        C.due("nobody", x.degree(0, 5, 100), CometKin.UNKNOWN);
        C.due("nobody", x.degree(-1, 0, 1), CometKin.UNKNOWN);
        C.holds(11, "All others who are KIN to one in a YEAR, by bits. UNKNOWN; OUTSIDE.");
        C.due("kin(0, 19)", x.kin(0, 19), 0);
        C.due("kin(0, 20)", x.kin(0, 20), 6);
        C.due("kin(0, 39)", x.kin(0, 39), 14);
        C.due("kin(4, 99)", x.kin(4, 99), 15);
        C.due("kin(4, 100)", x.kin(4, 100), CometKin.OUTSIDE);
        C.due("kin(4, -1)", x.kin(4, -1), CometKin.OUTSIDE);
        C.due("kin(5, -1)", x.kin(5, -1), CometKin.UNKNOWN);
        C.due("kin(-1, 0)", x.kin(-1, 0), CometKin.UNKNOWN);
    }

    private static void kinThroughCloudsAndSparks() {
        C.holds(11, "of children whose BIRTHS COUNT for these two then (through anybody)");
        // 1 and 3 are seers: a cloud counts for these two alone, a spark for two others
        CometKin x = C.landed(FAMILY, "cloud 50;spark 60;comet 70");
        C.due("kin(1, 50)", x.kin(1, 50), 8);
        C.due("kin(3, 50)", x.kin(3, 50), 2);
        C.due("kin(0, 50)", x.kin(0, 50), 0);
        C.due("kin(0, 60)", x.kin(0, 60), 20);
        C.due("kin(1, 60)", x.kin(1, 60), 8);
        C.due("kin(1, 70)", x.kin(1, 70), 29);
        C.due("who see nothing together", x.degree(0, 1, 60), CometKin.NONE);
        C.due("who see it together", x.degree(0, 1, 70), 2);
        C.due("through somebody who saw no cloud", x.degree(1, 3, 50), 1);
        C.due("through somebody who saw no spark", x.degree(0, 4, 60), 2);
    }
}
