import java.io.IOException;
import java.io.UncheckedIOException;
import java.nio.charset.StandardCharsets;
import java.nio.file.Files;
import java.nio.file.Path;
import java.util.ArrayList;
import java.util.BitSet;
import java.util.LinkedHashMap;
import java.util.List;
import java.util.Map;
import java.util.regex.Pattern;

/** The document by sections and sentences, and which of its sentences have a test. */
final class Document {
    private static final Path FILE = Path.of("..", "shared", "DOC.md");
    /** Signs of a boundary case; each sentence with one of them must have a test. */
    private static final Pattern BOUNDARY = Pattern.compile("Throws|NONE|-1|\\d to \\d|at first|at most|up to|above|within\\b"
        + "|\\b(if|no|none|only|fewer|less|lesser|least|greater|greatest|longest|longer|late|silent|short|tie|stays?|leaves?|nothing|refused"
        + "|rounded|without|once|empty|empties|in place of|may)\\b");

    private final Map<String, List<String>> sentences = new LinkedHashMap<>();
    private final Map<String, List<String>> quoted = new LinkedHashMap<>();

    Document() {
        String heading = "";
        for (String line : lines()) {
            if (line.startsWith("## ")) {
                heading = line.substring(3).strip();
                sentences.put(heading, new ArrayList<>());
                quoted.put(heading, new ArrayList<>());
            } else if (!heading.isEmpty() && !line.startsWith("```") && !line.isBlank()) {
                for (String sentence : line.strip().split("(?<=[.;:]) ")) {
                    sentences.get(heading).add(plain(sentence));
                }
            }
        }
    }

    private static List<String> lines() {
        try {
            return Files.readAllLines(FILE, StandardCharsets.UTF_8);
        } catch (IOException e) {
            throw new UncheckedIOException(e);
        }
    }

    private static String plain(String text) {
        return text.replace("`", "").replaceAll("\\s+", " ").strip();
    }

    /** The heading that begins so; null without one. */
    String heading(String begin) {
        for (String heading : sentences.keySet()) {
            if (heading.equals(begin) || heading.startsWith(begin + ":")) {
                return heading;
            }
        }
        return null;
    }

    /** Notes that some words of a section are tested; false, if they don't stand there. */
    boolean quote(String heading, String words) {
        quoted.get(heading).add(plain(words));
        return section(heading).contains(plain(words));
    }

    private String section(String heading) {
        return String.join(" ", sentences.get(heading));
    }

    /** The sentences that show signs of a boundary case, and of which no test bears any words. */
    List<String> withoutTest() {
        List<String> without = new ArrayList<>();
        for (String heading : sentences.keySet()) {
            if (heading.startsWith("Promise") || heading.equals("Terms")) {
                BitSet tested = tested(heading);
                int begin = 0;
                for (String sentence : sentences.get(heading)) {
                    int end = begin + sentence.length();
                    if (tested.get(begin, end).isEmpty() && BOUNDARY.matcher(sentence).find()) {
                        without.add(heading + " | " + sentence);
                    }
                    begin = end + 1;
                }
            }
        }
        return without;
    }

    private BitSet tested(String heading) {
        String section = section(heading);
        BitSet tested = new BitSet();
        for (String words : quoted.get(heading)) {
            for (int at = section.indexOf(words); at >= 0; at = section.indexOf(words, at + 1)) {
                tested.set(at, at + words.length());
            }
        }
        return tested;
    }
}
