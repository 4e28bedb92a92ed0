import java.io.IOException;
import java.nio.file.Files;
import java.nio.file.Path;
import java.util.ArrayList;
import java.util.List;
import java.util.regex.Matcher;
import java.util.regex.Pattern;

/** The words of ../shared/DOC.md, and which of them a test quotes. */
final class Document {
    static final int PROMISES = 48;

    /** Words by which a sentence names a boundary case: what stands around them must have a test. */
    private static final Pattern MARKS = Pattern.compile("at most|at least|\\d+ \\.\\. |NOW \\.\\. |\\bNONE\\b|\\bfalse\\b|-2147483648"
            + "|up to|too (great|deep|early)|can't be|\\babove\\b|\\bbelow\\b|\\bfewer\\b|beyond|of like ones|least number|none such"
            + "|no such|at first|doesn't end|or none|\\bNone\\b|without|nothing|never|no more|or more|empty|\\bfirst\\b|\\bgreatest\\b|alone"
            + "|\\bboth\\b|anew|else 0|likewise|so already|ahead of");

    /** What is told of the document itself needs none: how its notation reads. */
    private static final String[] NOT_SENTENCES = {"who is ahead and who was passed and why", "nights beyond what the law lets",
        "beds foretold against boats", "another law beside"};

    private final String[] sections = new String[PROMISES + 1];
    private final boolean[][] quoted = new boolean[PROMISES + 1][];

    Document(Path file) throws IOException {
        String text = Files.readString(file);
        int terms = text.indexOf("## Terms");
        sections[0] = part(text, "## What it is", "## The public face") + " " + text.substring(terms, text.indexOf("## Promise 1:"));
        for (int n = 1; n <= PROMISES; n++) {
            String of = part(text, "## Promise " + n + ":", n < PROMISES ? "## Promise " + (n + 1) + ":" : "## Not promised");
            sections[n] = of.replaceFirst("^.*", "").replaceFirst("`.*`:", "");
        }
        for (int n = 0; n <= PROMISES; n++) {
            sections[n] = sections[n].replaceAll("```\\w*", " ").replaceAll("\\s+", " ").trim();
            quoted[n] = new boolean[sections[n].length()];
            for (String words : NOT_SENTENCES) quote(n, words);
        }
    }

    private static String part(String text, String from, String to) {
        int start = text.indexOf(from);
        return text.substring(start, text.indexOf(to, start));
    }

    /** Whether the words stand in that section: then they are quoted. */
    boolean quote(int section, String words) {
        int at = sections[section].indexOf(words);
        for (int i = at; at >= 0 && i < at + words.length(); i++) quoted[section][i] = true;
        return at >= 0;
    }

    /** Each boundary that no test quotes, with the words around it. */
    List<String> unquoted() {
        List<String> found = new ArrayList<>();
        for (int n = 0; n <= PROMISES; n++) {
            Matcher mark = MARKS.matcher(sections[n]);
            while (mark.find()) {
                if (quoted[n][mark.start()]) continue;
                String around = sections[n].substring(Math.max(0, mark.start() - 40), Math.min(sections[n].length(), mark.end() + 40));
                found.add((n == 0 ? "terms" : "promise " + n) + ": .. " + around + " ..");
            }
        }
        return found;
    }
}
