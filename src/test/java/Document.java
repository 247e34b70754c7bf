import java.io.IOException;
import java.io.UncheckedIOException;
import java.nio.charset.StandardCharsets;
import java.nio.file.Files;
import java.nio.file.Path;
import java.util.ArrayList;
import java.util.BitSet;
import java.util.LinkedHashMap;
import java.util.List;
import java.util.Map;
import java.util.regex.Pattern;

/** The document by sections and sentences, and which of its words a test bears. */
final class Document {
    private static final Path FILE = Path.of("..", "shared", "DOC.md");
    /** What stands ahead of a sentence and is none: the sign of a list, or the number and the name of a term. */
    private static final Pattern AHEAD = Pattern.compile("^(- |\\d+\\. [A-Z][a-z ]+\\. )");
    /** The name of a parameter or of an error, which what it tells stands behind. */
    private static final Pattern NAME = Pattern.compile("\\w+:");

    private final Map<String, List<String>> sentences = new LinkedHashMap<>();
    private final Map<String, List<String>> quoted = new LinkedHashMap<>();

    Document() {
        String heading = "";
        for (String line : lines()) {
            if (line.startsWith("## ")) {
                heading = line.substring(3).strip();
                sentences.put(heading, new ArrayList<>());
                quoted.put(heading, new ArrayList<>());
            } else if (!heading.isEmpty() && !line.startsWith("```") && !line.isBlank()) {
                for (String sentence : AHEAD.matcher(line.strip()).replaceFirst("").split("(?<=[.;:]) ")) {
                    sentences.get(heading).add(plain(sentence));
                }
            }
        }
    }

    private static List<String> lines() {
        try {
            return Files.readAllLines(FILE, StandardCharsets.UTF_8);
        } catch (IOException e) {
            throw new UncheckedIOException(e);
        }
    }

    private static String plain(String text) {
        return text.replace("`", "").replaceAll("\\s+", " ").strip();
    }

    /** The heading that begins so; null without one. */
    String heading(String begin) {
        for (String heading : sentences.keySet()) {
            if (heading.equals(begin) || heading.startsWith(begin + ":")) {
                return heading;
            }
        }
        return null;
    }

    List<String> sentencesOf(String heading) {
        return sentences.getOrDefault(heading, List.of());
    }

    /** Notes that some words of a section are tested; false, if they don't stand there. */
    boolean quote(String heading, String words) {
        quoted.get(heading).add(plain(words));
        return section(heading).contains(plain(words));
    }

    private String section(String heading) {
        return String.join(" ", sentences.get(heading));
    }

    /** The sentences of which no test bears some of the words. */
    List<String> withoutTest() {
        List<String> without = new ArrayList<>();
        for (String heading : sentences.keySet()) {
            BitSet tested = tested(heading);
            int begin = 0;
            for (String sentence : sentences.get(heading)) {
                String left = untested(sentence, tested.get(begin, begin + sentence.length()));
                if (!left.isEmpty() && !NAME.matcher(sentence).matches()) {
                    without.add(heading + " | " + sentence + " | " + left);
                }
                begin += sentence.length() + 1;
            }
        }
        return without;
    }

    private static String untested(String sentence, BitSet tested) {
        StringBuilder left = new StringBuilder();
        for (int i = 0; i < sentence.length(); i++) {
            boolean told = Character.isLetterOrDigit(sentence.charAt(i)) && !tested.get(i);
            left.append(told ? sentence.charAt(i) : ' ');
        }
        return left.toString().strip();
    }

    private BitSet tested(String heading) {
        String section = section(heading);
        BitSet tested = new BitSet();
        for (String words : quoted.get(heading)) {
            for (int at = section.indexOf(words); at >= 0; at = section.indexOf(words, at + 1)) {
                tested.set(at, at + words.length());
            }
        }
        return tested;
    }
}
