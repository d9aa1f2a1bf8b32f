import java.io.IOException;
import java.nio.file.Files;
import java.nio.file.Path;
import java.util.ArrayList;
import java.util.BitSet;
import java.util.LinkedHashMap;
import java.util.List;
import java.util.Map;

/** The text of ../shared/DOC.md by its headings, and which of its words a test has quoted. */
final class Document {
    private static final Path FILE = Path.of("../shared/DOC.md");

    private final Map<String, String> texts = new LinkedHashMap<>();
    private final Map<String, BitSet> quoted = new LinkedHashMap<>();

    private Document() {
    }

    /** Where there is no such file, all words are taken as they are quoted. */
    static Document read() throws IOException {
        Document document = new Document();
        if (!Files.exists(FILE)) {
            System.out.println(FILE + " is not there: no words are compared with it");
            return document;
        }
        String heading = "";
        StringBuilder text = new StringBuilder();
        for (String line : Files.readAllLines(FILE)) {
            if (line.startsWith("## ")) {
                document.keep(heading, text.toString());
                heading = line.substring(3).replaceFirst("^(Promise \\d+):.*", "$1");
                text.setLength(0);
            } else if (!line.startsWith("```") && !line.startsWith("Ahead of the calls ")) {
                text.append(line).append('\n');
            }
        }
        document.keep(heading, text.toString());
        return document;
    }

    /** Without what is no sentence: the numbers of the terms, and the calls that the promises begin with. */
    private void keep(String heading, String text) {
        String plain = text.replaceAll("==== \\d ", " ").replaceAll("\\s+", " ").trim();
        if (heading.startsWith("Promise ")) {
            plain = plain.replaceFirst("^`[^`]*`: ", "");
        }
        texts.put(heading, plain);
        quoted.put(heading, new BitSet());
    }

    /** Whether the words stand under the heading; of several places the first that is not quoted yet. */
    boolean quote(String heading, String words) {
        if (texts.isEmpty()) {
            return true;
        }
        String text = texts.getOrDefault(heading, "");
        BitSet marks = quoted.get(heading);
        int first = text.indexOf(words);
        if (first < 0) {
            return false;
        }
        int at = first;
        while (at >= 0 && marks.get(at)) {
            at = text.indexOf(words, at + 1);
        }
        int begin = at < 0 ? first : at;
        marks.set(begin, begin + words.length());
        return true;
    }

    /** What no test has quoted of the terms and the promises. */
    List<String> unquoted() {
        List<String> left = new ArrayList<>();
        for (String heading : texts.keySet()) {
            if (heading.equals("Terms") || heading.startsWith("Promise ")) {
                addUnquoted(heading, left);
            }
        }
        return left;
    }

    boolean hasPromises(int most) {
        long found = texts.keySet().stream().filter(heading -> heading.startsWith("Promise ")).count();
        return texts.isEmpty() || found == most && texts.containsKey("Promise " + most);
    }

    private void addUnquoted(String heading, List<String> left) {
        String text = texts.get(heading);
        BitSet marks = quoted.get(heading);
        for (int begin = marks.nextClearBit(0); begin < text.length();) {
            int end = marks.nextSetBit(begin);
            end = end < 0 ? text.length() : end;
            String words = text.substring(begin, end);
            if (words.matches(".*[A-Za-z0-9].*")) {
                left.add(heading + ": " + words.trim());
            }
            begin = marks.nextClearBit(end);
        }
    }
}
