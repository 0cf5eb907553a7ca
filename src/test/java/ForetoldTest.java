/** Promises 22 to 32: what is foretold. */
public final class ForetoldTest {
    private static final Checks C = new Checks("ForetoldTest");
    /** 0, 1 and the children 2, 3 of both, 4 the child of 2 alone; 1 and 3 are seers. */
    private static final String FAMILY = "child 1;seer 2;child 20;seer 22;of 2 0 1;of 3 0 1;widow 40;to 4 2";

    public static void main(String[] args) {
        first();
        last();
        bestBorn();
        bestBornRefused();
        weddings();
        weddingsOfMany();
        makes();
        makesOfEclipses();
        feasted();
        forget();
        truths();
        truth();
        left();
        leftRefused();
        count();
        C.end();
    }

    private static void first() {
        C.holds(22, "FIRST of two, from this YEAR on: the first YEAR in which they are KIN at a told DEGREE at most; none up to 99.");
        CometKin x = C.landed(FAMILY, "comet 20;comet 39;comet 40");
        C.due("first(0, 0, 9)", x.first(0, 0, 9), CometKin.UNKNOWN);
        C.due("first(0, 5, 10)", x.first(0, 5, 10), CometKin.UNKNOWN);
        C.due("first(0, 1, 10)", x.first(0, 1, 10), CometKin.OUTSIDE);
        C.due("first(0, 1, -1)", x.first(0, 1, -1), CometKin.OUTSIDE);
        C.due("first(0, 2, 1)", x.first(0, 2, 1), 20);
        C.due("first(0, 2, 0)", x.first(0, 2, 0), CometKin.NONE);
        C.due("first(0, 1, 1)", x.first(0, 1, 1), CometKin.NONE);
        C.due("first(1, 0, 2)", x.first(1, 0, 2), 20);
        C.due("first(2, 3, 2)", x.first(2, 3, 2), 39);
        C.due("first(3, 4, 2)", x.first(3, 4, 2), CometKin.NONE);
        C.due("first(3, 4, 3)", x.first(3, 4, 3), 40);
        x.go(30);
        C.due("from this year on", x.first(0, 2, 9), 30);
        // later a shorter way: through 1 by degree 3, and then as a child of both
        x = C.landed("child 0;child 0;child 5;to 2 0;child 9;of 3 0 1;child 5;of 4 1 2;comet 6;comet 99");
        C.due("the long way", x.first(0, 1, 9), 6);
        C.due("the long way is 3", x.first(0, 1, 3), 6);
        C.due("the short way", x.first(0, 1, 2), 99);
    }

    private static void last() {
        C.holds(23, "LAST: the last YEAR up to 99 in which they are not NEAR; none from this one on.");
        CometKin x = C.landed(FAMILY, "comet 20;comet 39;comet 99");
        C.due("last(0, 0)", x.last(0, 0), CometKin.UNKNOWN);
        C.due("last(5, 0)", x.last(5, 0), CometKin.UNKNOWN);
        C.due("a parent", x.last(0, 2), 19);
        C.due("two of the same", x.last(3, 2), 38);
        C.due("kin in the last year", x.last(4, 2), 98);
        C.due("by degree 3", x.last(4, 3), 99);
        x.go(19);
        C.due("this one is the last", x.last(0, 2), 19);
        x.go(1);
        C.due("none from this one on", x.last(0, 2), CometKin.NONE);
        C.land(x, "law 0", 1);
        C.due("law 0", x.last(0, 2), 99);
        C.land(x, "law 3", 1);
        C.due("law 3", x.last(4, 3), 98);
    }

    private static void bestBorn() {
        C.holds(24, "such that in the told one he is KIN to most who live now; of several the first; to how many; none.");
        // 0, 1 born in 10, 20; the child 2 of both; 3 a seer who sees no spark
        CometKin x = C.landed("child 10;child 20;child 20;of 2 0 1;seer 0;to 3 0;spark 30;comet 40;spark 50");
        C.due("by 25, without a comet, born with his mother", x.bestBorn(0, 1, 25, 0), 20);
        C.due("to nobody", x.bestBorn(0, 1, 25, 1), 0);
        C.due("ahead of a parent", x.bestBorn(0, 1, 19, 0), CometKin.NONE);
        C.due("ahead of a parent", x.bestBorn(0, 1, 19, 1), CometKin.NONE);
        C.due("in the year of a parent's birth", x.bestBorn(1, 0, 20, 0), 20);
        C.due("by a spark", x.bestBorn(0, 1, 39, 0), 20);
        C.due("to those who saw it", x.bestBorn(0, 1, 39, 1), 3);
        C.due("to all", x.bestBorn(0, 1, 40, 1), 4);
        C.due("born by 40", x.bestBorn(0, 1, 40, 0), 20);
        C.holds(24, "the YEAR of his BIRTH, from this one to a told one, in which both were born (not later)");
        x.go(35);
        C.due("from this year on", x.bestBorn(0, 1, 99, 0), 35);
        C.due("to all", x.bestBorn(0, 1, 99, 1), 4);
        x.go(10);
        C.due("the true one went by", x.bestBorn(0, 1, 99, 0), 45);
        C.due("to those who see the last", x.bestBorn(0, 1, 99, 1), 3);
        x.die(2);
        C.due("to those who live", x.bestBorn(0, 1, 99, 1), 2);
        C.due("a year that went by", x.bestBorn(0, 1, 44, 0), CometKin.NONE);
        C.due("this year", x.bestBorn(0, 1, 45, 0), 45);
        C.due("to nobody by now", x.bestBorn(0, 1, 45, 1), 0);
        C.due("nobody was born", x.count(0), 4);
        // he himself does not count, and is no seer, whatever his parents are
        x = C.landed("seer 0;seer 0;cloud 5");
        C.due("two seers and a cloud", x.bestBorn(0, 1, 9, 1), 0);
        // each of two strangers is a parent; not born with one of them, he misses the first comet
        x = C.landed("child 0;child 4;comet 3;child 0");
        C.due("the first comet went by", x.bestBorn(0, 1, 50, 0), 4);
        C.due("the first comet went by", x.bestBorn(0, 1, 50, 1), 0);
        C.land(x, "comet 5", 1);
        C.due("two strangers", x.bestBorn(0, 1, 50, 1), 2);
        C.due("two strangers", x.bestBorn(1, 0, 4, 1), 0);
    }

    private static void bestBornRefused() {
        C.holds(24, "UNKNOWN; OUTSIDE: the YEAR told (0 .. 99), what; FULL: there are 9 of PEOPLE.");
        CometKin x = C.landed("child 1;child 1");
        C.due("one and himself", x.bestBorn(0, 0, 100, 2), CometKin.UNKNOWN);
        C.due("nobody", x.bestBorn(0, 2, 5, 0), CometKin.UNKNOWN);
        C.due("nobody", x.bestBorn(-1, 1, 5, 0), CometKin.UNKNOWN);
        C.due("no year", x.bestBorn(0, 1, 100, 0), CometKin.OUTSIDE);
        C.due("no year", x.bestBorn(0, 1, -1, 0), CometKin.OUTSIDE);
        C.due("no what", x.bestBorn(0, 1, 5, 2), CometKin.OUTSIDE);
        C.due("no what", x.bestBorn(0, 1, 5, -1), CometKin.OUTSIDE);
        C.holds(24, "FULL: there are 9 of PEOPLE.");
        C.land(x, "child 1;child 1;child 1;child 1;child 1;child 1", 6);
        C.due("eight", x.bestBorn(0, 1, 5, 0), 1);
        C.land(x, "child 1", 1);
        C.due("nine", x.bestBorn(0, 1, 5, 0), CometKin.FULL);
        C.due("nine, no what", x.bestBorn(0, 1, 5, 2), CometKin.OUTSIDE);
        C.due("nine, one and himself", x.bestBorn(1, 1, 5, 0), CometKin.UNKNOWN);
    }

    private static void weddings() {
        C.holds(25, "WEDDINGS: the most that can be made now, by pairs who MAY MARRY");
        CometKin x = C.landed("child 0;child 0;child 0;child 3;to 1 0;to 2 0;comet 1");
        C.due("weddings(3)", x.weddings(3), CometKin.OUTSIDE);
        C.due("weddings(-1)", x.weddings(-1), CometKin.OUTSIDE);
        C.due("three of no kin yet", x.weddings(0), 1);
        C.due("the first", x.weddings(1), 0);
        C.due("the first", x.weddings(2), 1);
        x.go(1);
        C.due("three who are kin", x.weddings(0), 0);
        C.due("none", x.weddings(1), CometKin.NONE);
        C.due("none", x.weddings(2), CometKin.NONE);
        x.go(2);
        C.due("one more was born", x.weddings(0), 1);
        C.due("with the first", x.weddings(1), 0);
        C.due("the other one", x.weddings(2), 3);
        x.die(0);
        C.due("with the next", x.weddings(1), 1);
        C.due("the other one", x.weddings(2), 3);
        C.due("nothing changes", x.count(5), 0);
        x.wed(1, 3);
        C.due("nobody is left for 2", x.weddings(0), 0);
    }

    private static void weddingsOfMany() {
        C.holds(25, "the first pair (its lesser one, then the other one least) with which");
        CometKin x = C.landed("child 0;child 0;child 0;child 0;child 0;child 0;child 0;child 0;child 0;law 0");
        C.due("nine free", x.weddings(0), 4);
        C.due("the first pair", x.weddings(1), 0);
        C.due("the first pair", x.weddings(2), 1);
        x.wed(0, 5);
        C.due("seven free", x.weddings(0), 3);
        C.due("the first pair", x.weddings(1), 1);
        C.due("the first pair", x.weddings(2), 2);
        x = C.landed("child 0;child 0;child 0;child 0;to 1 0;to 2 0;to 3 1;comet 0", "law 2");
        // near are 0-1, 0-2, 1-2, 1-3, 0-3; 2-3 is of degree 3
        C.due("only 2 and 3", x.weddings(0), 1);
        C.due("the first pair", x.weddings(1), 2);
        C.due("the first pair", x.weddings(2), 3);
        C.land(x, "child 0;to 4 0", 2);
        // 4 is near to all but 3: with 2-3 or 3-4 one wedding, 2 first
        C.due("one with 3", x.weddings(0), 1);
        C.due("the first pair", x.weddings(1), 2);
        C.land(x, "law 1", 1);
        // near are 0-1, 0-2, 1-3, 0-4: 0-3 leaves 1-2, 1-4 or 2-4
        C.due("two", x.weddings(0), 2);
        C.due("the first pair", x.weddings(1), 0);
        C.due("the first pair", x.weddings(2), 3);
        x = C.landed("child 0;child 0;to 1 0;child 0;child 0;to 3 2;comet 0");
        C.due("two of two lines", x.weddings(0), 2);
        C.due("the first pair", x.weddings(1), 0);
        C.due("1 is left for 3", x.weddings(2), 2);
    }

    private static void makes() {
        C.holds(26, "MAKES: the COMET without which most pairs fewer are KIN in this YEAR");
        CometKin x = C.landed(FAMILY, "cloud 41;comet 45;comet 50");
        C.due("makes(2)", x.makes(2), CometKin.OUTSIDE);
        C.due("makes(-1)", x.makes(-1), CometKin.OUTSIDE);
        C.due("ahead of all", x.makes(0), CometKin.NONE);
        C.due("ahead of all", x.makes(1), CometKin.NONE);
        x.go(44);
        C.due("two seers by a cloud", x.makes(0), 0);
        C.due("two seers by a cloud", x.makes(1), 1);
        x.go(1);
        C.due("all others", x.makes(0), 1);
        C.due("all others", x.makes(1), 9);
        x.go(5);
        C.due("two of them", x.makes(0), CometKin.NONE);
        C.due("two of them", x.makes(1), CometKin.NONE);
        C.due("nothing changes", x.count(1), 3);
        // of several the least
        x = C.landed("child 0;child 1;to 1 0;seer 0;seer 1;to 3 2;cloud 5;spark 5");
        x.go(5);
        C.due("each one pair", x.makes(0), 0);
        C.due("each one pair", x.makes(1), 1);
    }

    private static void makesOfEclipses() {
        C.holds(26, "(what is CANCELLED found anew); of several the least; how many fewer; none: none makes any.");
        // without 1 the eclipse cancels 0: all pairs fewer; without 0 it cancels 1 as before
        CometKin x = C.landed("child 0;child 0;child 0;to 1 0;to 2 0;comet 5;comet 6;eclipse 7;spark 4");
        x.go(7);
        C.due("pairs", x.count(8), 3);
        C.due("0 and 3 both make them", x.makes(0), CometKin.NONE);
        x = C.landed("child 0;child 0;child 0;to 1 0;to 2 0;comet 5;comet 6;eclipse 7");
        x.go(7);
        C.due("0 or 1", x.makes(0), 0);
        C.due("0 or 1", x.makes(1), 3);
        x = C.landed("child 0;child 0;child 0;to 1 0;to 2 0;eclipse 7;comet 6;comet 5");
        x.go(7);
        C.due("of two alike the least", x.makes(0), 1);
        x = C.landed("child 0;child 0;to 1 0;comet 6;eclipse 7");
        x.go(7);
        C.due("the eclipse makes fewer", x.makes(0), CometKin.NONE);
    }

    private static void feasted() {
        C.holds(27, "FEASTED: how many. UNKNOWN; OUTSIDE; FULL.");
        CometKin x = C.landed(FAMILY);
        C.due("one and himself", x.feasted(0, 0, 100, 2), CometKin.UNKNOWN);
        C.due("nobody", x.feasted(0, 5, 1, 1), CometKin.UNKNOWN);
        C.due("nobody", x.feasted(-1, 0, 1, 1), CometKin.UNKNOWN);
        C.due("no year", x.feasted(0, 1, 100, 1), CometKin.OUTSIDE);
        C.due("no year", x.feasted(0, 1, -1, 1), CometKin.OUTSIDE);
        C.due("no is", x.feasted(0, 1, 1, 2), CometKin.OUTSIDE);
        C.due("no is", x.feasted(0, 1, 1, -1), CometKin.OUTSIDE);
        C.holds(27, "FEASTED, 8 at most: two were KIN in a YEAR (1), or not (0).");
        for (int feast = 1; feast <= 8; feast++) {
            C.due("feasted", x.feasted(0, 1, 99, feast % 2), feast);
            C.due("count(9)", x.count(9), feast);
        }
        C.due("a ninth", x.feasted(0, 1, 0, 1), CometKin.FULL);
        C.due("a ninth, no is", x.feasted(0, 1, 0, 2), CometKin.OUTSIDE);
        C.due("it is no deed", x.count(10), 0);
    }

    private static void forget() {
        C.holds(28, "Nothing is FEASTED: how many there were.");
        CometKin x = C.landed(FAMILY);
        C.due("forget", x.forget(), 0);
        x.feasted(0, 1, 99, 1);
        x.feasted(0, 1, 99, 1);
        C.due("none is so", x.truths(0), 0);
        C.due("forget", x.forget(), 2);
        C.due("forget", x.forget(), 0);
        C.due("count(9)", x.count(9), 0);
        C.due("all is so", x.truths(0), 1);
        C.due("feasted", x.feasted(0, 1, 99, 0), 1);
    }

    private static void truths() {
        C.holds(29, "TRUTHS: how many (what 0), COMETS of one KIND in all, by bits (1; none: 0). OUTSIDE.");
        // 1, 2 seers; 3 the child of 0, and 4 of 1
        CometKin x = C.landed("child 0;seer 0;seer 0;child 0;to 3 0;seer 0;to 4 1;comet 10;comet 20;eclipse 30");
        C.due("truths(2)", x.truths(2), CometKin.OUTSIDE);
        C.due("truths(-1)", x.truths(-1), CometKin.OUTSIDE);
        C.due("nine ways, one cancelled", x.truths(0), 9);
        C.due("the eclipsed one is of one kind", x.truths(1), 4);
        x.feasted(0, 3, 15, 1);
        C.due("0 is true or false", x.truths(0), 6);
        C.due("it is of several kinds", x.truths(1), 4);
        x.feasted(1, 4, 15, 0);
        C.due("0 is false", x.truths(0), 3);
        C.due("0 is of one kind", x.truths(1), 5);
        x.feasted(1, 4, 25, 1);
        C.due("1 is cancelled", x.truths(0), 0);
        C.due("none", x.truths(1), 0);
        x.forget();
        x.feasted(0, 3, 9, 1);
        C.due("ahead of all", x.truths(0), 0);
        x.forget();
        x.feasted(1, 4, 10, 1);
        x.feasted(0, 3, 10, 1);
        C.due("0 is true", x.truths(0), 3);
        C.due("0 is of one kind", x.truths(1), 5);
        C.due("nothing changes", x.comet(0, 0), 0);
        x.makes(0);
        C.due("behind what else was foretold", x.truths(0), 3);
    }

    private static void truth() {
        C.holds(30, "The KIND of a COMET in the first TRUTH; NONE: there is none. UNKNOWN.");
        CometKin x = C.landed("child 0;seer 0;child 0;to 2 0;seer 0;to 3 1;cloud 10;spark 20;eclipse 90;cloud 91");
        C.due("truth(4)", x.truth(4), CometKin.UNKNOWN);
        C.due("truth(-1)", x.truth(-1), CometKin.UNKNOWN);
        int[] all = {0, 0, 3, 0};
        for (int comet = 0; comet < 4; comet++) {
            C.due("all true", x.truth(comet), all[comet]);
        }
        x.feasted(0, 2, 15, 0);
        C.due("0 is clouded", x.truth(0), 1);
        x.feasted(1, 3, 15, 0);
        C.due("and false", x.truth(0), CometKin.NONE);
        C.due("none", x.truth(2), CometKin.NONE);
        x.forget();
        x.feasted(1, 3, 15, 0);
        C.due("0 is false", x.truth(0), 2);
        C.due("1 is true yet", x.truth(1), 0);
        x.feasted(0, 2, 95, 1);
        x.feasted(1, 3, 95, 0);
        C.due("3 is false", x.truth(3), 2);
        x.forget();
        x.feasted(0, 1, 99, 0);
        C.due("the first by comets", x.truth(0), 0);
        // one who is a seer and one who is none see but the true ones
        x = C.landed("child 0;seer 0;to 1 0;comet 10;comet 20");
        x.feasted(0, 1, 50, 1);
        C.due("one of two is true", x.truths(0), 5);
        C.due("first the first", x.truth(0), 0);
        x.feasted(0, 1, 15, 0);
        C.due("the other one", x.truths(0), 2);
        C.due("the first is clouded", x.truth(0), 1);
        C.due("the other one is true", x.truth(1), 0);
    }

    private static void left() {
        C.holds(31, "n at least (0 .. 8) live on, if each dies by p tenths (0 .. 10), by himself.");
        CometKin x = C.landed("child 0;child 0;child 0;child 0;to 1 0;to 2 0;to 3 0;comet 5");
        C.due("none yet, 0 at least", x.left(0, 0, 3, 0), 1);
        C.due("none yet, 0 at least", x.left(0, 0, 3, 1), 1);
        C.due("none yet, 1 at least", x.left(0, 1, 3, 0), 0);
        C.due("none yet, 1 at least", x.left(0, 1, 3, 1), 1);
        x.go(5);
        // by 3 tenths each of three: 27, 189, 441, 343 of a thousand
        long[][] want = {{1, 1}, {973, 1000}, {98, 125}, {343, 1000}, {0, 1}, {0, 1}};
        for (int n = 0; n < want.length; n++) {
            C.due("left(0, " + n + ", 3, 0)", x.left(0, n, 3, 0), want[n][0]);
            C.due("left(0, " + n + ", 3, 1)", x.left(0, n, 3, 1), want[n][1]);
        }
        C.due("all live on", x.left(0, 3, 0, 0), 1);
        C.due("all live on", x.left(0, 3, 0, 1), 1);
        C.due("all die", x.left(0, 1, 10, 0), 0);
        C.due("all die", x.left(0, 1, 10, 1), 1);
        C.due("all die, 0 at least", x.left(0, 0, 10, 0), 1);
        x.die(3);
        C.due("of two, both", x.left(0, 2, 5, 1), 4);
        C.due("of two, one", x.left(0, 1, 5, 0), 3);
        x.die(0);
        C.due("of two of one who is dead", x.left(0, 1, 5, 0), 3);
        C.due("of one", x.left(1, 1, 4, 0), 3);
        C.due("of one", x.left(1, 1, 4, 1), 5);
        // nine: eight may die
        x = C.landed("child 0;child 0;child 0;child 0;child 0;child 0;child 0;child 0;child 0;comet 0",
            "to 1 0;to 2 0;to 3 0;to 4 0;to 5 0;to 6 0;to 7 0;to 8 0");
        C.due("eight of eight", x.left(0, 8, 9, 0), 1);
        C.due("eight of eight", x.left(0, 8, 9, 1), 100000000);
        C.due("one of eight", x.left(8, 1, 9, 0), 56953279);
        C.due("one of eight", x.left(8, 1, 9, 1), 100000000);
        C.due("seven of eight", x.left(8, 7, 1, 0), 81310473);
    }

    private static void leftRefused() {
        C.holds(31, "LEFT. UNKNOWN; OUTSIDE.");
        CometKin x = C.landed("child 0");
        C.due("nobody", x.left(1, 9, 11, 2), CometKin.UNKNOWN);
        C.due("nobody", x.left(-1, 0, 0, 0), CometKin.UNKNOWN);
        C.due("n", x.left(0, 9, 0, 0), CometKin.OUTSIDE);
        C.due("n", x.left(0, -1, 0, 0), CometKin.OUTSIDE);
        C.due("p", x.left(0, 0, 11, 0), CometKin.OUTSIDE);
        C.due("p", x.left(0, 0, -1, 0), CometKin.OUTSIDE);
        C.due("part", x.left(0, 0, 0, 2), CometKin.OUTSIDE);
        C.due("part", x.left(0, 0, 0, -1), CometKin.OUTSIDE);
        C.due("n 8", x.left(0, 8, 10, 1), 1);
    }

    private static void count() {
        C.holds(32, "0 PEOPLE, 1 COMETS, 2 the YEAR, 3 LAW, 4 those who live, by bits, 5 MARRIAGES, 6 GOLD of all, 7 DEBTS");
        CometKin x = C.landed(FAMILY, "gold 0 5;gold 4 7;comet 45;cloud 50;law 4");
        x.go(45);
        x.wed(0, 1);
        x.die(3);
        x.owe(0, 1, 5);
        x.feasted(0, 1, 3, 0);
        x.write(' ');
        int[] want = {5, 2, 45, 4, 23, 0, 12, 1, 10, 1, 3, 1, CometKin.OUTSIDE};
        for (int what = 0; what < want.length; what++) {
            C.due("count(" + what + ")", x.count(what), want[what]);
        }
        C.due("count(-1)", x.count(-1), CometKin.OUTSIDE);
        // gold and kin of those who are no more told are of nobody
        C.land(x, "land;child 0", 2);
        C.due("gold", x.count(6), 0);
        C.due("pairs", x.count(8), 0);
    }
}
