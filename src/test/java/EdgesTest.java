import java.io.IOException;
import java.nio.file.Files;
import java.nio.file.Path;
import java.util.regex.Matcher;
import java.util.regex.Pattern;

/**
 * Every sentence of the document that names a boundary, on both of its sides, and that every such sentence has a
 * test: the quotes of the tests are laid over the document, and no boundary may show.
 */
public final class EdgesTest {
    private static final Check CHECK = new Check();
    private static final Path DOCUMENT = Path.of("..", "shared", "DOC.md");
    private static final int PROMISES = 30;
    private static final Pattern BOUNDARY_OF_A_PROMISE = Pattern.compile(
        "\\b(UNKNOWN|OUTSIDE|NO|STATE|FULL|NONE|HERE|nowhere|empty)\\b|-1|\\d+ to \\d+|\\(0, 1\\)");
    private static final Pattern BOUNDARY_OF_THE_TERMS = Pattern.compile(
        "\\d+ to \\d+|at most|up to \\d+|at first|\\bNONE\\b|(?<=reasons: |; )\\d+ (?=[a-z])|\\bthe least\\b"
        + "|may be one|not 0|first of these|change nothing");

    public static void main(String[] args) throws IOException {
        Edges edges = new Edges(CHECK);
        TermsEdges.run(edges);
        CornersEdges.run(edges);
        SessionsEdges.run(edges);
        JoinsEdges.run(edges);
        LiarsEdges.run(edges);
        ImagesEdges.run(edges);
        allCallsOfOneObject();
        objectsByThemselves();
        everyBoundaryIsTested(Files.readString(DOCUMENT), edges);
        CHECK.end();
    }

    /** "An object is used for at most 512 calls after it has been made": the 512th is answered like the first. */
    private static void allCallsOfOneObject() {
        SwornLane lane = new SwornLane();
        for (int call = 1; call < 512; call++) {
            CHECK.due("call " + call + " of one object", lane.pole(call % 2 == 0), call == 1 || call % 2 == 1 ? 1 : 0);
        }
        CHECK.due("the 512th call of one object", lane.told(2), 0);
    }

    private static void objectsByThemselves() {
        SwornLane one = new SwornLane();
        SwornLane other = new SwornLane();
        String fresh = Check.all(new SwornLane());
        Check.act(one, "wabt0aA(A$0A!p.");
        one.rule(0, 0, 1);
        one.swore(0, 0, 1, true);
        one.image(0);
        one.say('p');
        CHECK.so("promise 1: one object changes no other", fresh.equals(Check.all(other)));
        CHECK.due("promise 1: nor its images", other.restore(0), SwornLane.STATE);
    }

    private static void everyBoundaryIsTested(String document, Edges edges) {
        boolean[] quoted = new boolean[document.length()];
        int[] tests = new int[PROMISES + 1];
        int terms = document.indexOf("## Terms");
        int promises = startOf(document, 1);
        for (Edges.Quote quote : edges.quotes()) {
            tests[quote.promise]++;
            boolean found = lay(document, quoted, quote.sentence, terms, promises);
            if (quote.promise > 0) {
                int start = startOf(document, quote.promise);
                found |= lay(document, quoted, quote.sentence, start, startOf(document, quote.promise + 1));
            }
            CHECK.so("the document says of promise " + quote.promise + ": " + quote.sentence, found);
        }
        for (int promise = 1; promise <= PROMISES; promise++) {
            CHECK.so("promise " + promise + " has tests of its edges", tests[promise] > 0);
            int start = document.indexOf("`: ", startOf(document, promise));
            shown(document, quoted, BOUNDARY_OF_A_PROMISE, start, startOf(document, promise + 1));
        }
        shown(document, quoted, BOUNDARY_OF_THE_TERMS, terms, document.indexOf("The constants: `UNKNOWN"));
    }

    private static int startOf(String document, int promise) {
        int start = document.indexOf(promise > PROMISES ? "## Not promised" : "## Promise " + promise + ":");
        if (start < 0) {
            throw new IllegalStateException("the document has no promise " + promise);
        }
        return start;
    }

    private static boolean lay(String document, boolean[] quoted, String sentence, int start, int end) {
        int at = document.indexOf(sentence, start);
        if (at < 0 || at + sentence.length() > end) {
            return false;
        }
        for (int i = at; i < at + sentence.length(); i++) {
            quoted[i] = true;
        }
        return true;
    }

    private static void shown(String document, boolean[] quoted, Pattern boundary, int start, int end) {
        Matcher matcher = boundary.matcher(document).region(start, end).useTransparentBounds(true);
        while (matcher.find()) {
            int from = Math.max(start, matcher.start() - 40);
            int to = Math.min(end, matcher.end() + 40);
            CHECK.so("a test quotes '" + matcher.group() + "' in: .." + document.substring(from, to).strip() + "..",
                quoted[matcher.start()]);
        }
    }
}
