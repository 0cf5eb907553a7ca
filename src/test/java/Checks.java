/** What the tests share: counting wrong answers, and writing texts letter by letter. */
final class Checks {
    private final String name;
    private String heading = "";
    private int asked;
    private int wrong;

    Checks(String name) {
        this.name = name;
    }

    /** The promise and the sentence of the document that the answers asked from here on are due by. */
    void holds(int promise, String sentence) {
        heading = ", promise " + promise + ", \"" + sentence + "\"";
    }

    void due(String call, long got, long want) {
        asked++;
        if (got != want) {
            wrong++;
            System.out.println(name + heading + ": " + call + " answered " + got + ", due is " + want);
        }
    }

    /** Writes a text, whatever the object's text had; it must have room. */
    void tell(CometKin kin, String text) {
        kin.erase();
        for (int place = 0; place < text.length(); place++) {
            due("write in \"" + text + "\"", kin.write(text.charAt(place)), place + 1);
        }
    }

    void land(CometKin kin, String text, int clauses) {
        tell(kin, text);
        due("fault of \"" + text + "\"", kin.fault(), CometKin.NONE);
        due("land of \"" + text + "\"", kin.land(), clauses);
    }

    /** A new object on which these texts have landed. */
    CometKin landed(String... texts) {
        CometKin kin = new CometKin();
        for (String text : texts) {
            land(kin, text, text.split(";").length);
        }
        return kin;
    }

    void faultAt(CometKin kin, String text, int place) {
        tell(kin, text);
        due("fault of \"" + text + "\"", kin.fault(), place);
        if (place != CometKin.NONE) {
            due("land of \"" + text + "\"", kin.land(), CometKin.NOT);
            due("letters of \"" + text + "\"", kin.count(11), text.length());
        }
    }

    void end() {
        System.out.println(name + ": " + asked + " answers asked, " + wrong + " wrong");
        if (wrong != 0 || asked == 0) {
            System.exit(1);
        }
    }
}
