/** Promises 12 to 21: years and deeds. */
public final class DeedsTest {
    private static final Checks C = new Checks("DeedsTest");
    /** Two parents, three children of them, a grandchild, a stranger. */
    private static final String FAMILY =
        "child 0;widow 0;child 1;seer 1;child 2;of 2 0 1;of 3 0 1;of 4 0 1;child 3;to 5 4;child 0";

    public static void main(String[] args) {
        go();
        may();
        wed();
        dieWithoutKin();
        dieWithKin();
        dieAndLeaveAWidow();
        owe();
        debt();
        pay();
        payRefused();
        undo();
        undoTheLatestEight();
        keepAndBack();
        C.end();
    }

    private static CometKin family(String more) {
        return C.landed(FAMILY, more);
    }

    private static void go() {
        C.holds(12, "n YEARS (1 .. 99) go by: the YEAR then. OUTSIDE; FULL: above 99.");
        CometKin x = new CometKin();
        C.due("go(0)", x.go(0), CometKin.OUTSIDE);
        C.due("go(-1)", x.go(-1), CometKin.OUTSIDE);
        C.due("go(100)", x.go(100), CometKin.OUTSIDE);
        C.due("go(2147483647)", x.go(Integer.MAX_VALUE), CometKin.OUTSIDE);
        C.due("go(1)", x.go(1), 1);
        C.due("go(99)", x.go(99), CometKin.FULL);
        C.due("count(10)", x.count(10), 1);
        C.due("go(98)", x.go(98), 99);
        C.due("go(1)", x.go(1), CometKin.FULL);
        C.due("go(100)", x.go(100), CometKin.OUTSIDE);
        C.due("year", x.count(2), 99);
        C.due("go(99) at once", new CometKin().go(99), 99);
    }

    private static void may() {
        C.holds(13, "Two MAY MARRY in this YEAR, if both live, were born (not later), are not married, and not NEAR in it.");
        CometKin x = family("comet 6;law 2");
        C.due("may(0, 0)", x.may(0, 0), CometKin.UNKNOWN);
        C.due("may(0, 7)", x.may(0, 7), CometKin.UNKNOWN);
        C.due("may(-1, 0)", x.may(-1, 0), CometKin.UNKNOWN);
        C.due("both born now", x.may(0, 1), 1);
        C.due("one not born yet", x.may(0, 2), 0);
        C.due("the other not born yet", x.may(2, 0), 0);
        x.go(1);
        C.due("both born, not kin yet", x.may(2, 3), 1);
        x.go(4);
        C.due("a parent, ahead of the comet", x.may(0, 2), 1);
        x.go(1);
        C.due("a parent, by the comet", x.may(0, 2), 0);
        C.due("two of the same", x.may(2, 3), 0);
        C.due("two with a child", x.may(0, 1), 0);
        C.due("above the law", x.may(2, 5), 1);
        C.due("a stranger", x.may(6, 2), 1);
        x.wed(6, 2);
        C.due("one married", x.may(6, 3), 0);
        C.due("the other married", x.may(3, 2), 0);
        x.die(2);
        C.due("married no more", x.may(6, 3), 1);
        C.due("with one dead", x.may(6, 2), 0);
        C.holds(13, "They are NEAR, if they are KIN and it is no more than LAW.");
        // who is of degree 0 is asked nowhere: by law 0 all may marry
        x = family("comet 6;law 0");
        x.go(6);
        C.due("law 0", x.may(0, 2), 1);
        x = family("comet 6;law 3");
        x.go(6);
        C.due("law 3", x.may(2, 5), 0);
    }

    private static void wed() {
        C.holds(14, "They MARRY: how many MARRIAGES there are. UNKNOWN; NOT.");
        CometKin x = family("dark");
        C.due("wed(0, 0)", x.wed(0, 0), CometKin.UNKNOWN);
        C.due("wed(7, 0)", x.wed(7, 0), CometKin.UNKNOWN);
        C.due("not born", x.wed(0, 5), CometKin.NOT);
        C.due("nothing done", x.count(10), 0);
        x.go(9);
        C.due("wed(3, 1)", x.wed(3, 1), 1);
        C.due("wed(1, 3)", x.wed(1, 3), CometKin.NOT);
        C.due("wed(1, 2)", x.wed(1, 2), CometKin.NOT);
        C.due("wed(0, 2)", x.wed(0, 2), 2);
        C.due("wed(4, 6)", x.wed(4, 6), 3);
        C.due("marriages", x.count(5), 3);
        C.due("one(1, 6)", x.one(1, 6), 3);
        C.due("one(3, 6)", x.one(3, 6), 1);
        C.due("one(5, 6)", x.one(5, 6), CometKin.NONE);
        x.die(4);
        C.due("marriages", x.count(5), 2);
        C.due("wed(6, 4)", x.wed(6, 4), CometKin.NOT);
        C.due("wed(5, 6)", x.wed(5, 6), 3);
    }

    private static void dieWithoutKin() {
        C.holds(15, "UNKNOWN; NOT: he does not live, was not born yet.");
        CometKin x = family("gold 6 9;gold 5 3");
        C.due("die(7)", x.die(7), CometKin.UNKNOWN);
        C.due("die(-1)", x.die(-1), CometKin.UNKNOWN);
        C.due("not born yet", x.die(5), CometKin.NOT);
        C.due("nothing done", x.count(10), 0);
        C.due("die(6)", x.die(6), 0);
        C.due("it is lost", x.count(6), 3);
        C.due("die(6) again", x.die(6), CometKin.NOT);
        C.due("who live", x.count(4), 63);
        C.due("people", x.count(0), 7);
        x.go(3);
        C.due("born now", x.die(5), 0);
        C.due("gold", x.count(6), 0);
    }

    private static void dieWithKin() {
        C.holds(15, "what is left goes in like parts (cut; the rest is lost) to those who live and are KIN to him");
        CometKin x = family("comet 5;gold 2 98;gold 5 1");
        x.go(5);
        C.due("two parents at degree 1", x.die(2), 2);
        C.due("one(0, 4)", x.one(0, 4), 49);
        C.due("one(1, 4)", x.one(1, 4), 49);
        C.due("one(2, 4)", x.one(2, 4), 0);
        C.due("one(3, 4)", x.one(3, 4), 0);
        C.due("0's living children; 3 and 4", x.die(0), 2);
        C.due("one(3, 4), cut", x.one(3, 4), 24);
        C.due("one(4, 4), cut", x.one(4, 4), 24);
        C.due("the rest is lost", x.count(6), 98);
        x.die(1);
        C.due("one(3, 4), half of 49, cut", x.one(3, 4), 48);
        C.due("none at 1, one at 2", x.die(3), 1);
        C.due("one(4, 4)", x.one(4, 4), 96);
        C.due("a child", x.die(4), 1);
        C.due("one(5, 4)", x.one(5, 4), 97);
        C.holds(15, "(to none: it is lost)");
        C.due("the last", x.die(5), 0);
        C.due("gold", x.count(6), 0);
        // who are not kin yet have nothing
        x = family("comet 5;gold 2 98");
        x.go(4);
        C.due("ahead of the comet", x.die(2), 0);
        C.due("gold", x.count(6), 0);
        // without gold they have like parts of none
        x = family("comet 5");
        x.go(5);
        C.due("without gold", x.die(2), 2);
    }

    private static void dieAndLeaveAWidow() {
        C.holds(15, "of his GOLD half (cut) goes to who was married to him, if that is a WIDOW");
        CometKin x = family("comet 5;law 0;gold 0 9;gold 6 7");
        x.go(5);
        x.wed(0, 1);
        C.due("three children", x.die(0), 3);
        C.due("the widow has half, cut", x.one(1, 4), 4);
        C.due("5 in three parts", x.one(2, 4), 1);
        C.due("5 in three parts", x.one(4, 4), 1);
        C.due("gold", x.count(6), 14);
        C.due("marriages", x.count(5), 0);
        C.due("she may marry", x.wed(1, 6), 1);
        C.due("her children", x.die(1), 3);
        C.due("none for one who is no widow", x.one(6, 4), 7);
        C.due("4 in three parts", x.one(3, 4), 2);
        // who is a widow and an heir has both
        x = C.landed("child 0;widow 0;to 1 0;comet 1;law 0;gold 0 9");
        x.go(1);
        x.wed(0, 1);
        C.due("the widow is the heir too", x.die(0), 1);
        C.due("both", x.one(1, 4), 9);
        // with nobody of kin only the widow's half is not lost
        x = C.landed("child 0;widow 0;gold 0 9");
        x.wed(0, 1);
        C.due("no kin", x.die(0), 0);
        C.due("the widow's half", x.one(1, 4), 4);
    }

    private static void owe() {
        C.holds(16, "A DEBT of n (1 .. 99) more: which it is. UNKNOWN; OUTSIDE; NOT: one of both does not live; FULL.");
        CometKin x = family("dark");
        C.due("owe(0, 0, 1)", x.owe(0, 0, 1), CometKin.UNKNOWN);
        C.due("owe(0, 7, 0)", x.owe(0, 7, 0), CometKin.UNKNOWN);
        C.due("owe(0, 1, 0)", x.owe(0, 1, 0), CometKin.OUTSIDE);
        C.due("owe(0, 1, 100)", x.owe(0, 1, 100), CometKin.OUTSIDE);
        x.die(6);
        C.due("owe(0, 6, 1)", x.owe(0, 6, 1), CometKin.NOT);
        C.due("owe(6, 0, 1)", x.owe(6, 0, 1), CometKin.NOT);
        C.due("owe(6, 0, 100)", x.owe(6, 0, 100), CometKin.OUTSIDE);
        C.due("done", x.count(10), 1);
        C.holds(16, "DEBTS, 8 at most");
        for (int debt = 0; debt < 8; debt++) {
            C.due("owe(5, 0, 99)", x.owe(5, 0, 99), debt);
            C.due("debts", x.count(7), debt + 1);
        }
        C.due("a ninth", x.owe(0, 1, 1), CometKin.FULL);
        C.due("a ninth, of one dead", x.owe(0, 6, 1), CometKin.NOT);
        C.due("a ninth, of 0", x.owe(0, 1, 0), CometKin.OUTSIDE);
        C.due("debts", x.count(7), 8);
    }

    private static void debt() {
        C.holds(17, "Of a DEBT: who (what 0), whom (1), how much (2), since when (3), the YEAR in which it is DUE (4; NONE)");
        CometKin x = C.landed("child 0;seer 0;child 0;seer 0;gold 0 20",
            "comet 10;comet 5;spark 20;cloud 30;spark 20;comet 30");
        x.owe(0, 1, 7);
        x.go(5);
        x.owe(0, 2, 8);
        x.owe(1, 3, 9);
        x.owe(3, 0, 10);
        int[][] want = {{0, 1, 7, 0, 10, 0}, {0, 2, 8, 5, 20, 0}, {1, 3, 9, 5, 30, 0}, {3, 0, 10, 5, 30, 0}};
        for (int debt = 0; debt < want.length; debt++) {
            for (int what = 0; what < 6; what++) {
                C.due("debt(" + debt + ", " + what + ")", x.debt(debt, what), want[debt][what]);
            }
        }
        C.due("debt(4, 9)", x.debt(4, 9), CometKin.UNKNOWN);
        C.due("debt(-1, 0)", x.debt(-1, 0), CometKin.UNKNOWN);
        C.due("debt(0, 6)", x.debt(0, 6), CometKin.OUTSIDE);
        C.due("debt(0, -1)", x.debt(0, -1), CometKin.OUTSIDE);
        x.go(5);
        x.owe(0, 2, 1);
        C.holds(17, "in a later YEAR than that (of two in one YEAR, too); never, if there is none.");
        C.due("two in one year", x.debt(4, 4), 20);
        x.owe(0, 1, 1);
        C.due("only one to come", x.debt(5, 4), CometKin.NONE);
        x.go(10);
        x.owe(0, 2, 1);
        C.due("in a later year alone", x.debt(6, 4), CometKin.NONE);
        x.owe(1, 3, 1);
        C.due("of two in one year", x.debt(7, 4), 30);
        C.due("pay", x.pay(0), 13);
        C.due("it was paid", x.debt(0, 5), 1);
        C.due("debts", x.count(7), 8);
        C.due("a paid one is one of eight", x.owe(0, 1, 1), CometKin.FULL);
    }

    private static void pay() {
        C.holds(18, "It is PAID: GOLD that he has left.");
        CometKin x = C.landed("child 0;child 0;gold 0 20;gold 1 99;comet 1;comet 2");
        x.owe(0, 1, 12);
        x.owe(0, 1, 8);
        x.go(2);
        C.due("pay(1)", x.pay(1), 12);
        C.due("the other one has it", x.one(1, 4), 107);
        C.due("pay(0)", x.pay(0), 0);
        C.due("gold", x.one(1, 4), 119);
        C.due("gold of all", x.count(6), 119);
        C.land(x, "law 1", 1);
        x.owe(0, 1, 5);
        C.due("behind a text nothing is paid", x.debt(0, 5), 0);
    }

    private static void payRefused() {
        C.holds(18, "NOT: it was, is not DUE yet, one of both does not live, he has not so much.");
        CometKin x = C.landed("child 0;child 0;gold 0 20;comet 1;comet 2;child 0");
        C.due("no debt", x.pay(0), CometKin.UNKNOWN);
        x.owe(0, 1, 21);
        x.owe(0, 1, 20);
        x.owe(2, 1, 1);
        x.owe(1, 2, 1);
        x.go(1);
        C.due("not due yet", x.pay(1), CometKin.NOT);
        x.owe(0, 1, 1);
        x.go(1);
        C.due("never due", x.pay(4), CometKin.NOT);
        C.due("not so much", x.pay(0), CometKin.NOT);
        C.due("pay(5)", x.pay(5), CometKin.UNKNOWN);
        C.due("pay(-1)", x.pay(-1), CometKin.UNKNOWN);
        C.due("all of it", x.pay(1), 0);
        C.due("it was paid", x.pay(1), CometKin.NOT);
        C.due("done", x.count(10), 8);
        x.die(2);
        C.due("whom he owes is dead", x.pay(3), CometKin.NOT);
        C.due("who owes is dead", x.pay(2), CometKin.NOT);
        C.due("gold of 1", x.one(1, 4), 20);
    }

    private static void undo() {
        C.holds(19, "The latest go(), wed(), die(), owe(), pay() is undone");
        CometKin x = C.landed("child 0;widow 0;child 0;to 2 0;gold 0 20;comet 1;comet 2;law 0");
        x.owe(0, 1, 12);
        x.go(2);
        x.wed(0, 1);
        x.pay(0);
        x.die(0);
        C.due("refused deeds", x.die(0) + x.go(0) + x.wed(0, 1) + x.pay(0) + x.owe(0, 1, 1),
            4 * CometKin.NOT + CometKin.OUTSIDE);
        C.due("done", x.count(10), 5);
        C.due("widow's gold", x.one(1, 4), 16);
        C.due("undo die", x.undo(), 4);
        C.due("lives", x.one(0, 5), 1);
        C.due("married", x.one(0, 6), 1);
        C.due("married", x.one(1, 6), 0);
        C.due("gold 0", x.one(0, 4), 8);
        C.due("gold 1", x.one(1, 4), 12);
        C.due("undo pay", x.undo(), 3);
        C.due("not paid", x.debt(0, 5), 0);
        C.due("gold 0", x.one(0, 4), 20);
        C.due("gold 1", x.one(1, 4), 0);
        C.due("undo wed", x.undo(), 2);
        C.due("marriages", x.count(5), 0);
        C.due("undo go", x.undo(), 1);
        C.due("year", x.count(2), 0);
        C.due("undo owe", x.undo(), 0);
        C.due("debts", x.count(7), 0);
        C.due("debt(0, 0)", x.debt(0, 0), CometKin.UNKNOWN);
        C.due("undo", x.undo(), CometKin.NOT);
    }

    private static void undoTheLatestEight() {
        C.holds(19, "the last 8 can be): how many can be undone yet. NOT: none.");
        CometKin x = new CometKin();
        for (int year = 1; year <= 11; year++) {
            x.go(1);
            C.due("can be undone", x.count(10), Math.min(year, 8));
        }
        for (int left = 7; left >= 5; left--) {
            C.due("undo", x.undo(), left);
            C.due("year", x.count(2), 3 + left);
        }
        C.due("go on", x.go(20), 28);
        C.due("can be undone", x.count(10), 6);
        C.tell(x, "dark");
        C.due("undo", x.undo(), 5);
        C.due("the text stays", x.erase(), 4);
        for (int left = 4; left >= 0; left--) {
            C.due("undo", x.undo(), left);
        }
        C.due("year", x.count(2), 3);
        C.due("no more", x.undo(), CometKin.NOT);
    }

    private static void keepAndBack() {
        C.holds(20, "All as it is (but THE TEXT, FEASTED, what can be undone) is kept (k 0, 1): the YEAR. UNKNOWN: no such k.");
        CometKin x = C.landed("child 0;widow 0;gold 0 20;comet 1;comet 2");
        C.due("keep(2)", x.keep(2), CometKin.UNKNOWN);
        C.due("keep(-1)", x.keep(-1), CometKin.UNKNOWN);
        C.due("back(2)", x.back(2), CometKin.UNKNOWN);
        C.due("back(-1)", x.back(-1), CometKin.UNKNOWN);
        C.due("back(0)", x.back(0), CometKin.NOT);
        x.go(1);
        x.wed(0, 1);
        x.owe(0, 1, 4);
        C.due("keep(1)", x.keep(1), 1);
        C.due("back(0)", x.back(0), CometKin.NOT);
        x.go(2);
        x.feasted(0, 1, 4, 0);
        C.tell(x, "dark");
        x.die(0);
        C.due("keep(0)", x.keep(0), 3);
        C.due("can be undone", x.count(10), 5);
        C.holds(21, "It is as it was kept, nothing can be undone: the YEAR.");
        C.due("back(1)", x.back(1), 1);
        int[] want = {2, 2, 1, 2, 3, 1, 20, 1, 0, 1, 0, 4};
        for (int what = 0; what < want.length; what++) {
            C.due("count(" + what + ") back", x.count(what), want[what]);
        }
        C.due("undo", x.undo(), CometKin.NOT);
        x.go(5);
        C.due("back(0)", x.back(0), 3);
        C.due("who live", x.count(4), 2);
        C.due("gold", x.count(6), 10);
        C.due("back(1) again", x.back(1), 1);
        x.go(9);
        C.due("keep(1) anew", x.keep(1), 10);
        x.undo();
        C.due("back(1)", x.back(1), 10);
        C.due("back(0)", x.back(0), 3);
        keepAndBackOfDebts(x);
        C.holds(21, "NOT: nothing was kept since the last text.");
        C.due("land", x.land(), 1);
        C.due("back(0)", x.back(0), CometKin.NOT);
        C.due("back(1)", x.back(1), CometKin.NOT);
        C.due("keep(1)", x.keep(1), 0);
        C.due("back(1)", x.back(1), 0);
        C.due("back(0)", x.back(0), CometKin.NOT);
    }

    private static void keepAndBackOfDebts(CometKin x) {
        x.back(1);
        C.due("a second debt", x.owe(1, 0, 5), 1);
        x.keep(0);
        x.back(1);
        x.go(3);
        C.due("another second debt", x.owe(0, 1, 6), 1);
        x.back(0);
        int[] want = {1, 0, 5, 10, -1, 0};
        for (int what = 0; what < want.length; what++) {
            C.due("debt(1, " + what + ") as it was kept", x.debt(1, what), want[what]);
        }
    }
}
