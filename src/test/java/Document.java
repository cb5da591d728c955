import java.io.IOException;
import java.nio.file.Files;
import java.nio.file.Path;
import java.util.ArrayList;
import java.util.List;

/** The document, and which of its sentences the tests have quoted: what nobody quotes, nobody tests. */
final class Document {
    private static final Path PLACE = Path.of("../shared/DOC.md");

    private final String text;
    private final boolean[] isQuoted;

    /** The runs hold without the document beside them, too: then only the quotes are not compared. */
    Document() throws IOException {
        text = Files.isReadable(PLACE) ? Files.readString(PLACE).replaceAll("\\s+", " ") : "";
        isQuoted = new boolean[text.length()];
        if (text.isEmpty()) {
            System.out.println("no " + PLACE + ": quotes are not compared with it");
        }
    }

    /** Whether the sentence stands in that place; it is quoted from now on. */
    boolean quote(String place, String sentence) {
        if (text.isEmpty()) {
            return true;
        }
        int from = begin(place);
        int at = text.indexOf(sentence, from);
        if (at < 0 || at + sentence.length() > end(place, from)) {
            return false;
        }
        for (int i = at; i < at + sentence.length(); i++) {
            isQuoted[i] = true;
        }
        return true;
    }

    /** A place is "top", "Terms", "section 1" .. "section 3", or the number of a promise. */
    private int begin(String place) {
        switch (place) {
            case "top": return 0;
            case "Terms": return behind("## Terms ");
            case "section 1": return behind("======== 1 THE SCHOOL ");
            case "section 2": return behind("======== 2 ");
            case "section 3": return behind("======== 3 ");
            default: return text.indexOf("`: ", behind("## Promise " + place + ": ")) + 3;
        }
    }

    private int end(String place, int from) {
        String next;
        switch (place) {
            case "top": next = "## The public face"; break;
            case "Terms": case "section 1": case "section 2": next = "======== "; break;
            case "section 3": next = "Ahead of the calls"; break;
            default: next = "## "; break;
        }
        return text.indexOf(next, from);
    }

    private int behind(String mark) {
        int at = text.indexOf(mark);
        if (at < 0) {
            throw new IllegalStateException("the document has no '" + mark + "'");
        }
        return at + mark.length();
    }

    /** Every stretch of words in that place that was not quoted. */
    List<String> unquoted(String place) {
        List<String> all = new ArrayList<>();
        if (text.isEmpty()) {
            return all;
        }
        StringBuilder stretch = new StringBuilder();
        int from = begin(place);
        int end = end(place, from);
        for (int i = from; i <= end; i++) {
            if (i < end && !isQuoted[i]) {
                stretch.append(text.charAt(i));
            } else {
                String words = stretch.toString().replace("```text", "").replace("```", "");
                if (words.matches(".*[A-Za-z0-9].*")) {
                    all.add(words.strip());
                }
                stretch.setLength(0);
            }
        }
        return all;
    }
}
