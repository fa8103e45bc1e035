import java.io.IOException;
import java.nio.file.Files;
import java.nio.file.Path;
import java.util.regex.Pattern;

/** Ties each test to the document's own words, and tells which words have no test. */
final class Sentence {
    private static final String FIRST = "## What it is";
    private static final String LAST = "## Not promised";
    // What the class is about, the face (LanguageTest looks at it), headings, fences, numbers of parts, and the signatures at
    // the promises' beginnings.
    private static final Pattern FRAME = Pattern.compile(
        "(?m)^A regiment.*$|^```java\\R(?:(?!```).*\\R)*|^#.*$|^```.*$|==== I+V?\\.|^`[^`]*`:");

    private final String doc;
    private final boolean[] quoted;
    private int from;
    private int to;
    private String words = "";
    private int checkedBefore;

    Sentence() throws IOException {
        String whole = Files.readString(Path.of("../shared/DOC.md"));
        String told = whole.substring(whole.indexOf(FIRST), whole.indexOf(LAST));
        StringBuilder marked = new StringBuilder();
        for (String section : told.split("(?m)(?=^## )")) {
            String heading = section.substring(0, section.indexOf('\n')).replaceAll(":.*", "");
            marked.append(" [").append(heading.substring(3)).append("] ").append(FRAME.matcher(section).replaceAll(" "));
        }
        doc = marked.toString().replaceAll("\\s+", " ") + "[";
        quoted = new boolean[doc.length()];
    }

    /** What is quoted next stands in this part of the document: "What it is", "Terms" or "Promise 7". */
    void in(String section) {
        from = doc.indexOf("[" + section + "]");
        if (from < 0) {
            Checks.fail("the document has no part " + section);
            from = 0;
        }
        to = doc.indexOf("[", from + 1);
    }

    /** What is checked next is checked of these words. */
    void of(String quote) {
        finish();
        words = quote;
        Checks.about("\"" + quote + "\"");
        checkedBefore = Checks.checked();
        String plain = quote.replaceAll("\\s+", " ");
        int at = doc.indexOf(plain, from);
        while (at >= 0 && quoted[at]) {
            at = doc.indexOf(plain, at + 1);
        }
        if (at < 0 || at >= to) {
            Checks.fail("the document does not say so there");
            return;
        }
        for (int i = at; i < at + plain.length(); i++) {
            quoted[i] = true;
        }
    }

    private void finish() {
        if (!words.isEmpty() && Checks.checked() == checkedBefore) {
            Checks.fail("nothing is checked");
        }
    }

    /** All that was not quoted. */
    void end() {
        finish();
        Checks.about("words without a test");
        String rest = unquoted();
        Checks.due("left: " + rest, rest.isEmpty(), true);
    }

    private String unquoted() {
        StringBuilder rest = new StringBuilder();
        boolean heading = false;
        for (int i = 0; i < doc.length(); i++) {
            heading |= doc.charAt(i) == '[';
            boolean open = !quoted[i] && !heading && Character.isLetterOrDigit(doc.charAt(i));
            heading &= doc.charAt(i) != ']';
            if (open) {
                rest.append(doc.charAt(i));
            } else if (rest.length() > 0 && rest.charAt(rest.length() - 1) != ' ') {
                rest.append(' ');
            }
        }
        return rest.toString().trim();
    }
}
