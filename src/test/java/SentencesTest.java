import java.io.IOException;
import java.nio.file.Files;
import java.nio.file.Path;
import java.util.ArrayList;
import java.util.List;
import java.util.TreeSet;
import java.util.regex.Matcher;
import java.util.regex.Pattern;
import java.util.stream.Stream;

/**
 * The sentences that the tests say they hold: each stands in the document, in the section of its promise or in one
 * that is for all; each promise has some; and each bound that the document names is named by one of them.
 */
public final class SentencesTest {
    private static final Checks C = new Checks("SentencesTest");
    private static final Pattern HELD = Pattern.compile("\\.holds\\((\\d+), \"([^\"]*)\"");
    /** Numbers, and the words with which the document says where something ends or what a refused call answers. */
    private static final Pattern BOUND = Pattern.compile("(?<!=== )\\d+|at most|at least|at the end|at its word|not later|later YEAR"
        + "|above 99|too soon|\\(cut|is lost|never|\\bnone\\b|\\bNONE\\b|\\bUNKNOWN\\b|\\bOUTSIDE\\b|\\bNOT\\b|\\bFULL\\b"
        + "|no more than|nothing changes|a seventh|a tenth|less than|in their order|of several");

    private record Held(int promise, String sentence, String where) { }

    public static void main(String[] args) throws IOException {
        String document = Files.readString(Path.of("../shared/DOC.md"));
        List<Held> held = held();
        for (Held it : held) {
            boolean told = section(document, "## What it is", "## Promise 1:").contains(it.sentence)
                || section(document, "## Promise " + it.promise + ":", "\n## ").contains(it.sentence);
            yes(it.where + ": promise " + it.promise + " or the terms say \"" + it.sentence + "\"", told);
        }
        for (int promise = 1; promise <= 32; promise++) {
            int its = promise;
            yes("some test holds promise " + promise, held.stream().anyMatch(it -> it.promise == its));
        }
        boundsAreNamed(document, held);
        C.end();
    }

    private static void yes(String what, boolean holds) {
        C.due(what, holds ? 1 : 0, 1);
    }

    private static List<Held> held() throws IOException {
        List<Held> held = new ArrayList<>();
        try (Stream<Path> files = Files.list(Path.of("src/test/java"))) {
            for (Path file : new TreeSet<>(files.toList())) {
                Matcher found = HELD.matcher(Files.readString(file));
                while (found.find()) {
                    held.add(new Held(Integer.parseInt(found.group(1)), found.group(2), file.getFileName().toString()));
                }
            }
        }
        return held;
    }

    /** What stands behind a line's beginning, up to the next such. */
    private static String section(String document, String from, String to) {
        int start = document.indexOf(from);
        int end = document.indexOf(to, start + from.length());
        return start < 0 ? "" : document.substring(start, end < 0 ? document.length() : end);
    }

    private static void boundsAreNamed(String document, List<Held> held) {
        boolean[] named = new boolean[document.length()];
        for (Held it : held) {
            for (int at = document.indexOf(it.sentence); at >= 0; at = document.indexOf(it.sentence, at + 1)) {
                java.util.Arrays.fill(named, at, at + it.sentence.length(), true);
            }
        }
        int place = document.indexOf("## Terms");
        for (String line : document.substring(place, document.indexOf("## Not promised")).split("\n")) {
            // a heading, and the face's own line ahead of a promise's words, name nothing
            int from = line.startsWith("## ") || line.startsWith("Ahead of the calls") ? line.length() : line.indexOf("`: ") + 1;
            Matcher bound = BOUND.matcher(line);
            while (bound.find()) {
                yes("some test names \"" + around(line, bound.start()) + "\"",
                    bound.start() < from || named[place + bound.start()]);
            }
            place += line.length() + 1;
        }
    }

    private static String around(String line, int at) {
        return line.substring(Math.max(0, at - 30), Math.min(line.length(), at + 30));
    }
}
