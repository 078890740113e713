import java.util.BitSet;
import java.util.LinkedHashMap;
import java.util.Map;

/** The document's sentences, each with a test of its own; those that no test was told for are found in the end. */
final class Sentences {
    final Due due = new Due("SentenceTest");
    private final Map<String, String> texts = new LinkedHashMap<>();
    private final Map<String, BitSet> tested = new LinkedHashMap<>();
    private String section = "";

    Sentences(String document) {
        for (String part : document.split("(?m)^## ")) {
            int line = part.indexOf('\n');
            String heading = part.substring(0, line).trim();
            String text = part.substring(line).replaceAll("```\\w*", " ").replaceAll("\\s+", " ").trim();
            texts.put(heading, text);
            tested.put(heading, new BitSet());
            tested.get(heading).set(0, signaturesOf(heading, text));
        }
    }

    /** How much of a section FaceTest looks at. */
    private static int signaturesOf(String heading, String text) {
        if (heading.startsWith("Promise")) {
            return text.indexOf('`', 1) + 1;
        }
        return heading.equals("The public face") ? text.length() : 0;
    }

    /** The section, by its heading, in which the next sentences stand. */
    void in(String heading) {
        due.where("");
        due.holds("a section \"" + heading + "\" in the document", texts.containsKey(heading));
        section = heading;
    }

    /** A sentence of the section, or a part of one, and what must hold by it. */
    void says(String sentence, Runnable test) {
        find(sentence);
        int checks = due.checks();
        try {
            test.run();
        } catch (RuntimeException | AssertionError e) {
            due.holds("that the test goes on behind " + e + ": it", false);
        }
        due.holds("that something was looked at: it", due.checks() > checks);
    }

    /** A sentence that promises nothing, so that there is nothing to look at. */
    void leavesOpen(String sentence) {
        find(sentence);
    }

    private void find(String sentence) {
        due.where(section + ", \"" + sentence + "\"");
        int at = texts.getOrDefault(section, "").indexOf(sentence);
        due.holds("the document says so: it", at >= 0);
        if (at >= 0) {
            tested.get(section).set(at, at + sentence.length());
        }
    }

    void end() {
        for (String heading : texts.keySet()) {
            due.where(heading);
            due.is("what no test was told for", untested(texts.get(heading), tested.get(heading)), "");
        }
        due.where("");
        due.end();
    }

    private static String untested(String text, BitSet tested) {
        StringBuilder rest = new StringBuilder();
        for (int at = tested.nextClearBit(0); at < text.length(); at = tested.nextClearBit(at + 1)) {
            rest.append(text.charAt(at));
        }
        return rest.toString().replaceAll("[^A-Za-z0-9]+", " ").trim();
    }
}
