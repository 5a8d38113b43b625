import java.io.IOException;
import java.nio.file.Files;
import java.nio.file.Path;
import java.util.ArrayList;
import java.util.List;
import java.util.Set;

/** Checks that belong to sentences of the document, each told in the document's own words. */
final class Sentences {
    private static final Path DOC = Path.of("../shared/DOC.md");
    private static final Set<String> CHANGES =
        Set.of("write", "wipe", "lay", "feed", "room", "tell", "clash", "put", "slot", "undo");

    private final Checks checks = new Checks();
    private final String doc;
    private final List<String> told = new ArrayList<>();
    private String sentence = "";
    private int asked;

    Sentences() throws IOException {
        String all = Files.readString(DOC).replaceAll("\\s+", " ");
        int terms = all.indexOf("## Terms");
        int end = all.indexOf("## Not promised");
        doc = terms < 0 || end < terms ? "" : all.substring(terms, end);
        checks.holds("the document has Terms and promises", !doc.isEmpty());
    }

    /** The checks from here on belong to this sentence. */
    void says(String words) {
        endSentence();
        sentence = words;
        told.add(words);
        checks.holds("the document says: " + words, doc.contains(words));
    }

    /** The TEXT is laid on a new object, then the calls, each told with the answer due: "slot(1) = 0". */
    Run laid(String text, String... calls) {
        Run run = Run.written(text);
        due(run, "lay()", text.charAt(1) - '0');
        return go(run, calls);
    }

    /** The TEXT is written on a new object, then the calls. */
    Run written(String text, String... calls) {
        return go(Run.written(text), calls);
    }

    Run go(Run run, String... calls) {
        for (String call : calls) {
            String[] sides = call.split(" = ");
            due(run, sides[0], numberOf(sides[1]));
        }
        return run;
    }

    void faultIs(String text, int want) {
        Run run = Run.written(text);
        due(run, "fault()", want);
        if (want != DropQueues.NONE) {
            due(run, "lay()", DropQueues.NO);
        }
    }

    /** What is refused, and what only looks, changes nothing, whatever is looked at next. */
    void due(Run run, String call, int want) {
        asked++;
        int got = run.ask(call);
        checks.due(sentence + " |" + run, got, want);
        if (want < 0 || !CHANGES.contains(call.substring(0, call.indexOf('(')))) {
            List<String> without = Picture.whole(run.againWithoutLast(1));
            checks.holds("nothing changes by the last of" + run, without.equals(Picture.whole(run)));
        }
    }

    /** Nothing that can be seen tells the two apart. */
    void alike(Run one, Run other) {
        asked++;
        checks.holds(sentence + " |" + one + " is as" + other, Picture.whole(one).equals(Picture.whole(other)));
    }

    /** Every sentence of the document must have been told. */
    void end(String test) {
        endSentence();
        // The longest first: a short one may stand inside it.
        told.sort((a, b) -> b.length() - a.length());
        String left = doc;
        for (String words : told) {
            left = left.replace(words, "|");
        }
        left = left.replaceAll("## (Terms|Promise \\d+: [A-Za-z ]+?(?= `))", "");
        left = left.replaceAll("```(text)?", "");
        left = left.replaceAll("`(int )?\\w+\\([^)]*\\)`:", "");
        left = left.replaceAll("Ahead of the calls [^.]*\\.", "");
        checks.holds("no sentence is left without a test: " + left, !left.matches("(?s).*[A-Za-z].*"));
        checks.end(test);
    }

    private void endSentence() {
        if (!sentence.isEmpty()) {
            checks.holds("something is asked about: " + sentence, asked > 0);
        }
        asked = 0;
    }

    private static int numberOf(String answer) {
        return switch (answer) {
            case "BAD" -> DropQueues.BAD;
            case "NO" -> DropQueues.NO;
            case "FULL" -> DropQueues.FULL;
            case "NONE" -> DropQueues.NONE;
            default -> Integer.parseInt(answer);
        };
    }
}
