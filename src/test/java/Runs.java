import java.lang.reflect.InvocationTargetException;
import java.lang.reflect.Method;
import java.util.ArrayList;
import java.util.Arrays;
import java.util.List;
import java.util.Map;
import java.util.regex.Matcher;
import java.util.regex.Pattern;

/**
 * Runs of calls, told in lines, each under the promise and the sentence of the document that it holds. The lines:
 *
 * <pre>
 *   go(5) 5               a call and the answer that is due, a number or the name of a constant
 *   write "child 0"       these letters are written; due is how many there are
 *   land "child 0;law 1"  this text, whatever was written before, has no fault and lands with all its clauses
 *   fault "law 7" 4       this text, whatever was written before, has its fault there and cannot land, or NONE
 *   ----                  a new object
 * </pre>
 *
 * Behind each call that is refused, later calls are asked of an object on which it was called and of one on which
 * it was not: they must answer alike.
 */
final class Runs {
    /** Numbers of which none is one of people, a comet, a debt, a kind or a year, whatever a machine makes of them. */
    static final int[] FAR = {Integer.MIN_VALUE, Integer.MIN_VALUE + 1, -256, -64, -32, -2, -1, 100, 128, 256, 65536,
        1 << 30, Integer.MAX_VALUE - 1, Integer.MAX_VALUE};
    /** Numbers by which a bit would be shifted as by 0, 1 and 2. */
    static final int[] SHIFTED = {32, 33, 34, 64};
    /** A line on which nine of no kin land. */
    static final String NINE = "land \"" + "child 0;".repeat(8) + "child 0\"\n";
    /** Nine, each one the child of the one ahead, and a comet that all see. */
    static final String LINE = NINE + "land \"to 1 0;to 2 1;to 3 2;to 4 3;to 5 4;to 6 5;to 7 6;to 8 7;comet 0\"\n";

    private static final int MOST_CALLS = 512;
    private static final Map<String, Long> NAMES =
        Map.of("NONE", -1L, "UNKNOWN", -2L, "OUTSIDE", -3L, "NOT", -4L, "FULL", -5L);
    private static final Pattern CALL = Pattern.compile("(\\w+)\\(([-0-9, ]*)\\)");
    private static final Pattern CALL_LINE = Pattern.compile("(\\w+\\([-0-9, ]*\\)) (-?\\d+|[A-Z]+)");
    private static final Pattern TEXT_LINE = Pattern.compile("(write|land|fault) \"(.*)\"(?: (\\d+|NONE))?");

    private final String name;
    private String heading = "";
    private int holding;
    private int asked;
    private int wrong;
    private CometKin kin;
    private List<Call> made;
    private long letters;

    Runs(String name) {
        this.name = name;
    }

    /** A call of the document's face, with its arguments. */
    private record Call(Method method, Object[] arguments) {
        static Call of(String told) {
            Matcher call = CALL.matcher(told);
            if (!call.matches()) {
                throw new IllegalArgumentException("no call: " + told);
            }
            Object[] arguments = call.group(2).isBlank() ? new Object[0]
                : Arrays.stream(call.group(2).split(", ")).map(Integer::valueOf).toArray();
            return Arrays.stream(CometKin.class.getMethods())
                .filter(it -> it.getName().equals(call.group(1)) && it.getParameterCount() == arguments.length)
                .map(it -> new Call(it, arguments)).findFirst()
                .orElseThrow(() -> new IllegalArgumentException("not of the face: " + told));
        }

        long on(CometKin kin) {
            try {
                return ((Number) method.invoke(kin, arguments)).longValue();
            } catch (InvocationTargetException thrown) {
                throw new IllegalStateException(this + " threw", thrown.getCause());
            } catch (IllegalAccessException closed) {
                throw new IllegalStateException(closed);
            }
        }

        @Override
        public String toString() {
            return method.getName() + Arrays.toString(arguments).replace('[', '(').replace(']', ')');
        }
    }

    /** Runs the lines on a new object, for this sentence of the document. */
    void holds(int promise, String sentence, String lines) {
        heading = "promise " + promise + ", \"" + sentence + "\"";
        holding++;
        fresh();
        for (String line : lines.split("\n")) {
            if (!line.isBlank()) {
                run(line.strip());
            }
        }
    }

    private void fresh() {
        kin = new CometKin();
        made = new ArrayList<>();
        letters = 0;
    }

    private void run(String line) {
        Matcher call = CALL_LINE.matcher(line);
        Matcher text = TEXT_LINE.matcher(line);
        if (line.equals("----")) {
            fresh();
        } else if (call.matches()) {
            due(call.group(1), answer(call.group(2)));
        } else if (text.matches() && text.group(1).equals("write")) {
            write(text.group(2));
        } else if (text.matches()) {
            empty();
            write(text.group(2));
            if (text.group(1).equals("land")) {
                due("fault()", CometKin.NONE);
                due("land()", text.group(2).chars().filter(letter -> letter == ';').count() + 1);
            } else {
                fault(answer(text.group(3)));
            }
        } else {
            throw new IllegalArgumentException("no line: " + line);
        }
    }

    private static long answer(String told) {
        return NAMES.containsKey(told) ? NAMES.get(told) : Long.parseLong(told);
    }

    private void empty() {
        if (letters > 0) {
            due("erase()", letters);
        }
    }

    private void write(String text) {
        for (int place = 0; place < text.length(); place++) {
            due("write(" + (int) text.charAt(place) + ")", letters + 1);
        }
    }

    private void fault(long place) {
        due("fault()", place);
        if (place != CometKin.NONE) {
            due("land()", CometKin.NOT);
        }
    }

    private void due(String told, long want) {
        Call call = Call.of(told);
        long got = call.on(kin);
        same(told + ", call " + (made.size() + 1), got, want);
        if (want < CometKin.NONE) {
            nothingChanged(call);
        }
        made.add(call);
        letters = lettersBehind(call.method().getName(), want);
        if (made.size() > MOST_CALLS) {
            throw new IllegalArgumentException("more calls than an object is used for: " + heading);
        }
    }

    private long lettersBehind(String called, long want) {
        return switch (called) {
            case "write" -> Math.max(want, letters);
            case "erase" -> 0;
            case "land" -> want >= 0 ? 0 : letters;
            default -> letters;
        };
    }

    private void same(String what, long got, long want) {
        asked++;
        if (got != want) {
            wrong++;
            System.out.println(name + ", " + heading + ": " + what + " answered " + got + ", due is " + want);
        }
    }

    // ---- what is asked behind a refused call

    private void nothingChanged(Call refused) {
        for (List<Call> later : Later.ALL) {
            CometKin with = asMade();
            refused.on(with);
            CometKin without = asMade();
            if (made.size() + 1 + later.size() > MOST_CALLS) {
                throw new IllegalArgumentException("too many calls for those behind a refused one: " + heading);
            }
            for (Call call : later) {
                same("behind " + refused + ", refused as call " + (made.size() + 1) + ", " + call,
                    call.on(with), call.on(without));
            }
        }
    }

    private CometKin asMade() {
        CometKin again = new CometKin();
        for (Call call : made) {
            call.on(again);
        }
        return again;
    }

    /** Rows of calls that together look at all that an object tells, and change it in all ways. */
    private static final class Later {
        private static final int MOST_QUESTIONS = 110;
        private static final List<List<Call>> ALL = all();

        private static List<List<Call>> all() {
            List<String> questions = questions();
            List<List<Call>> all = new ArrayList<>();
            for (int from = 0; from < questions.size(); from += MOST_QUESTIONS) {
                int to = Math.min(from + MOST_QUESTIONS, questions.size());
                all.add(questions.subList(from, to).stream().map(Call::of).toList());
            }
            for (String row : rows()) {
                all.add(Arrays.stream(row.split("; ")).map(Call::of).toList());
            }
            return all;
        }

        private static List<String> questions() {
            List<String> questions = new ArrayList<>();
            add(questions, "count(%d)", 12, 1);
            questions.add("fault()");
            add(questions, "one(%d, %d)", 9, 7);
            add(questions, "comet(%d, %d)", 6, 4);
            add(questions, "as(%d, 0)", 9, 1);
            add(questions, "cometAs(%d, 0)", 6, 1);
            add(questions, "debt(%d, %d)", 8, 6);
            add(questions, "kin(%d, 9)", 9, 1);
            add(questions, "kin(%d, 99)", 9, 1);
            add(questions, "degree(%d, %d, 99)", 9, 9);
            add(questions, "may(%d, %d)", 9, 9);
            add(questions, "last(%d, %d)", 9, 2);
            add(questions, "first(%d, %d, 9)", 9, 2);
            add(questions, "bestBorn(0, 1, 99, %d)", 2, 1);
            add(questions, "weddings(%d)", 3, 1);
            add(questions, "makes(%d)", 2, 1);
            add(questions, "truths(%d)", 2, 1);
            add(questions, "truth(%d)", 6, 1);
            add(questions, "left(%d, 1, 3, %d)", 9, 2);
            return questions;
        }

        private static void add(List<String> questions, String form, int ones, int others) {
            for (int one = 0; one < ones; one++) {
                for (int other = 0; other < others; other++) {
                    questions.add(String.format(form, one, other));
                }
            }
        }

        private static List<String> rows() {
            String state = "; count(2); count(4); count(5); count(6); count(7); count(9); count(10); debt(0, 5)";
            String undone = ("undo()" + state + "; ").repeat(9);
            return List.of(
                undone + "undo()",
                "back(0)" + state + "; undo(); back(1)" + state + "; back(0); count(2)",
                "go(1); wed(0, 1); owe(0, 1, 1); pay(0); die(0)" + state + "; " + undone + "undo()",
                "write(59); count(11); fault(); land(); count(11); erase(); count(11)",
                "fault(); land()" + state + "; count(0); count(1); count(3); one(0, 4); back(0); back(1); undo()",
                "keep(1); go(1); back(1)" + state + "; back(0)" + state + "; undo()",
                "feasted(0, 1, 5, 1); truths(0); truths(1); truth(0); forget(); truths(0); forget()");
        }
    }

    void end() {
        System.out.println(name + ": " + holding + " sentences held, " + asked + " answers asked, " + wrong + " wrong");
        if (wrong != 0 || asked == 0) {
            System.exit(1);
        }
    }
}
