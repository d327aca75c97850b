import java.nio.file.Files;
import java.nio.file.Path;
import java.util.ArrayList;
import java.util.List;

/**
 * A sentence of the document that names a boundary, and the answers that are due on both sides of it.
 * What a test quotes should stand in the document word for word, and what the document says in its Terms
 * and Promises should be quoted by some test; where it is not so, a note says it, but the class is not to
 * blame for that.
 */
final class Edge {
    /** Below the least, above the greatest: numbers that no limit of the document lets in. */
    static final int LEAST = Integer.MIN_VALUE;
    static final int GREATEST = Integer.MAX_VALUE;

    private static final List<String> SENTENCES = new ArrayList<>();
    private static final List<Integer> CHECKS = new ArrayList<>();
    private static int wrong = 0;

    private Edge() {
    }

    /** The answers that follow are due by this sentence. */
    static void of(String sentence) {
        SENTENCES.add(plain(sentence));
        CHECKS.add(0);
    }

    static void due(String what, long got, long want) {
        due(what, Long.toString(got), Long.toString(want));
    }

    static void due(String what, String got, String want) {
        int last = CHECKS.size() - 1;
        CHECKS.set(last, CHECKS.get(last) + 1);
        if (!got.equals(want)) {
            tell("\"" + SENTENCES.get(last) + "\": " + what + " answered " + got + ", due is " + want);
        }
    }

    /** A call that is not refused, whatever else it answers. */
    static void taken(String what, long got) {
        due(what + (got < 0 ? " (" + got + ")" : "") + " is taken", got >= 0 ? 1 : 0, 1);
    }

    private static void tell(String fault) {
        wrong++;
        System.out.println(fault);
    }

    private static void note(String what) {
        System.out.println("note: " + what);
    }

    private static String plain(String text) {
        return text.replaceAll("\\s+", " ").trim();
    }

    static void finish() throws Exception {
        int checks = 0;
        for (int i = 0; i < SENTENCES.size(); i++) {
            checks += CHECKS.get(i);
            if (CHECKS.get(i) < 2) {
                tell("\"" + SENTENCES.get(i) + "\" is not looked at from both sides");
            }
        }
        holdAgainstDocument();
        System.out.println(SENTENCES.size() + " sentences with " + checks + " answers looked at, " + wrong + " not as due");
        if (wrong != 0) {
            System.exit(1);
        }
    }

    /** Headings, signatures and fences say nothing by themselves: they are taken out of the document first. */
    private static void holdAgainstDocument() throws Exception {
        Path file = Path.of(System.getProperty("voteroll.doc", "../shared/DOC.md"));
        String document = Files.exists(file) ? Files.readString(file) : "";
        int from = document.indexOf("\n## Terms");
        int to = document.indexOf("\n## Not promised");
        if (from < 0 || to < from) {
            note("no Terms and Promises in " + file);
            return;
        }
        String text = document.substring(from, to).replaceAll("(?m)^#.*$", " ").replaceAll("(?m)^```.*$", " ")
                .replaceAll("(?m)^`[^`]*\\(.*?\\)`:", " ").replaceAll("(?m)^[IV]+\\. ", " ");
        text = plain(text);
        boolean[] quoted = new boolean[text.length()];
        for (String sentence : SENTENCES) {
            int at = text.indexOf(sentence);
            if (at < 0 && !plain(document).contains(sentence)) {
                note("the document does not say: " + sentence);
            }
            while (at >= 0) {
                java.util.Arrays.fill(quoted, at, at + sentence.length(), true);
                at = text.indexOf(sentence, at + 1);
            }
        }
        tellUnquoted(text, quoted);
    }

    private static void tellUnquoted(String text, boolean[] quoted) {
        int at = 0;
        while (at < text.length()) {
            int from = at;
            while (at < text.length() && !quoted[at]) {
                at++;
            }
            String left = text.substring(from, at);
            if (left.chars().anyMatch(Character::isLetterOrDigit)) {
                note("no test quotes: " + left.trim());
            }
            at++;
        }
    }
}
