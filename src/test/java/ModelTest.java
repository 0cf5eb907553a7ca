/** Long runs of calls, the same each time, on CometKin and on the plain Model: all answers must be alike. */
public final class ModelTest {
    private static final Checks C = new Checks("ModelTest");
    private static final String[] COMETS = {"comet", "comet", "comet", "cloud", "spark", "eclipse"};
    private static final String[] ONES = {"child", "seer", "widow"};
    private static final String[] ODD = {"", ";", " ", "comet", "of", "0", "7", "100", "x", "A", "child 5", "to 1 0"};

    private long seed;
    private CometKin kin;
    private Model model;
    private int calls;
    private int people;
    private int comets;

    public static void main(String[] args) {
        int runs = args.length > 0 ? Integer.parseInt(args[0]) : 600;
        for (int run = 1; run <= runs; run++) {
            new ModelTest().run(run);
        }
        C.end();
    }

    /** From 0 to most, by a row of numbers that is told by the run's number. */
    private int upTo(int most) {
        seed = seed * 6364136223846793005L + 1442695040888963407L;
        return (int) ((seed >>> 33) % (most + 1));
    }

    private boolean rarely() {
        return upTo(24) == 0;
    }

    private int someone() {
        return rarely() ? beside(8) : upTo(Math.max(people - 1, 0));
    }

    private int someComet() {
        return rarely() ? beside(5) : upTo(Math.max(comets - 1, 0));
    }

    private int within(int most) {
        return rarely() ? beside(most) : upTo(most);
    }

    /** A number that is just, or far, below 0 or above most. */
    private int beside(int most) {
        return switch (upTo(5)) {
            case 0 -> Integer.MIN_VALUE + upTo(1);
            case 1 -> Integer.MAX_VALUE - upTo(1);
            case 2, 3 -> -1 - upTo(1);
            default -> most + 1 + upTo(1);
        };
    }

    private void run(int run) {
        seed = run * 7919L;
        kin = new CometKin();
        model = new Model();
        calls = 0;
        people = 0;
        comets = 0;
        int texts = 1 + upTo(1);
        for (int text = 0; text < texts; text++) {
            tellText();
            int deeds = 40 + upTo(60);
            for (int deed = 0; deed < deeds && calls < 330; deed++) {
                someCall();
            }
        }
    }

    private void tellText() {
        tell(ones());
        tell(ties());
        tell(lights());
        if (upTo(3) == 0) {
            tell(ODD[upTo(ODD.length - 1)] + ODD[upTo(ODD.length - 1)] + ODD[upTo(ODD.length - 1)]);
        }
    }

    private int birth() {
        return upTo(3) == 0 ? upTo(60) : upTo(12);
    }

    private int cometYear() {
        return upTo(5) == 0 ? upTo(99) : upTo(40);
    }

    private String ones() {
        StringBuilder text = new StringBuilder(rarely() ? "land" : "law " + within(6));
        for (int one = 3 + upTo(5); one > 0; one--) {
            text.append(upTo(9) == 0 ? " ; " : ";").append(ONES[upTo(2)]).append(" ").append(birth());
        }
        return text.toString();
    }

    private String ties() {
        int all = Math.max(model.count(0) - 1, 1);
        StringBuilder text = new StringBuilder("gold " + upTo(all) + " " + upTo(99));
        for (int tie = 2 + upTo(7); tie > 0; tie--) {
            int child = 1 + upTo(all - 1);
            int mother = rarely() ? upTo(all) : upTo(child - 1);
            text.append(upTo(9) == 0 ? ";gold " + child + " " + upTo(99) : "");
            text.append(child > 1 && upTo(2) > 0
                ? ";of " + child + " " + mother + " " + (rarely() ? mother : (mother + 1 + upTo(child - 2)) % child)
                : ";to " + child + " " + mother);
        }
        return text.toString();
    }

    private String lights() {
        StringBuilder text = new StringBuilder("dark");
        for (int comet = upTo(6) + (rarely() ? 1 : 0); comet > 0; comet--) {
            text.append(";").append(COMETS[upTo(COMETS.length - 1)]).append(" ").append(cometYear());
        }
        return text.toString();
    }

    private void tell(String text) {
        same("erase()", kin.erase(), model.erase());
        for (int place = 0; place < text.length() && place < 165; place++) {
            kin.write(text.charAt(place));
            model.write(text.charAt(place));
        }
        same("fault of \"" + text + "\"", kin.fault(), model.fault());
        same("land of \"" + text + "\"", kin.land(), model.land());
        people = model.count(0);
        comets = model.count(1);
    }

    private void same(String call, long got, long want) {
        calls++;
        C.due(call, got, want);
    }

    private void someCall() {
        int which = upTo(9);
        if (which < 3) {
            someDeed(upTo(upTo(3) == 0 ? 13 : 11));
        } else if (which < 7) {
            somethingForetold(upTo(10));
        } else {
            somethingTold(upTo(8));
        }
    }

    private void somethingTold(int which) {
        int one = someone();
        int other = someone();
        int comet = someComet();
        int what = within(6);
        int year = within(99);
        switch (which) {
            case 0 -> same("one(" + one + ", " + what + ")", kin.one(one, what), model.one(one, what));
            case 1 -> same("comet(" + comet + ", " + what / 2 + ")",
                kin.comet(comet, what / 2), model.comet(comet, what / 2));
            case 2 -> same("as(" + one + ", " + what + ")", kin.as(one, what), model.as(one, what));
            case 3 -> same("cometAs(" + comet + ", " + what + ")", kin.cometAs(comet, what), model.cometAs(comet, what));
            case 4 -> same("degree(" + one + ", " + other + ", " + year + ")",
                kin.degree(one, other, year), model.degree(one, other, year));
            case 5 -> same("kin(" + one + ", " + year + ")", kin.kin(one, year), model.kin(one, year));
            case 6 -> same("write(" + (what + 96) + ")", kin.write(what + 96), model.write(what + 96));
            case 7 -> same("fault()", kin.fault(), model.fault());
            default -> countAll();
        }
    }

    private void countAll() {
        for (int what = -1; what <= 12; what++) {
            same("count(" + what + ")", kin.count(what), model.count(what));
        }
    }

    private void someDeed(int which) {
        int one = someone();
        int other = someone();
        int n = upTo(19) == 0 ? within(99) : 1 + upTo(3);
        int debt = rarely() ? upTo(9) - 1 : upTo(Math.max(model.count(7) - 1, 0));
        int what = within(5);
        int k = rarely() ? within(1) : upTo(1);
        switch (which) {
            case 0, 1 -> same("go(" + n + ")", kin.go(n), model.go(n));
            case 2 -> same("may(" + one + ", " + other + ")", kin.may(one, other), model.may(one, other));
            case 3, 4 -> same("wed(" + one + ", " + other + ")", kin.wed(one, other), model.wed(one, other));
            case 5 -> same("undo()", kin.undo(), model.undo());
            case 6, 7 -> same("owe(" + one + ", " + other + ", " + n + ")",
                kin.owe(one, other, n), model.owe(one, other, n));
            case 8 -> same("debt(" + debt + ", " + what + ")", kin.debt(debt, what), model.debt(debt, what));
            case 9, 10 -> same("pay(" + debt + ")", kin.pay(debt), model.pay(debt));
            case 11 -> same("keep(" + k + ")", kin.keep(k), model.keep(k));
            case 12 -> same("back(" + k + ")", kin.back(k), model.back(k));
            default -> same("die(" + one + ")", kin.die(one), model.die(one));
        }
    }

    private void somethingForetold(int which) {
        int one = someone();
        int other = someone();
        int year = within(99);
        int what = within(1);
        int n = within(8);
        switch (which) {
            case 0 -> same("first(" + one + ", " + other + ", " + n + ")",
                kin.first(one, other, n), model.first(one, other, n));
            case 1 -> same("last(" + one + ", " + other + ")", kin.last(one, other), model.last(one, other));
            case 2 -> same("bestBorn(" + one + ", " + other + ", " + year + ", " + what + ")",
                kin.bestBorn(one, other, year, what), model.bestBorn(one, other, year, what));
            case 3 -> same("weddings(" + n % 4 + ")", kin.weddings(n % 4), model.weddings(n % 4));
            case 4 -> same("makes(" + what + ")", kin.makes(what), model.makes(what));
            case 5, 6 -> same("feasted(" + one + ", " + other + ", " + year + ", " + what + ")",
                kin.feasted(one, other, year, what), model.feasted(one, other, year, what));
            case 7 -> forgetRarely();
            case 8 -> same("truths(" + what + ")", kin.truths(what), model.truths(what));
            case 9 -> sameTruth(someComet());
            default -> sameOdds(one, n, within(10), what);
        }
    }

    private void forgetRarely() {
        if (upTo(3) == 0) {
            same("forget()", kin.forget(), model.forget());
        }
    }

    private void sameTruth(int comet) {
        same("truth(" + comet + ")", kin.truth(comet), model.truth(comet));
    }

    private void sameOdds(int one, int n, int p, int part) {
        same("left(" + one + ", " + n + ", " + p + ", " + part + ")",
            kin.left(one, n, p, part), model.left(one, n, p, part));
    }
}
