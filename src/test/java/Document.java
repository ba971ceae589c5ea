import java.io.IOException;
import java.io.UncheckedIOException;
import java.nio.file.Files;
import java.nio.file.Path;
import java.util.ArrayList;
import java.util.LinkedHashMap;
import java.util.List;
import java.util.Map;
import java.util.regex.Matcher;
import java.util.regex.Pattern;

/** The document itself: its sentences as they stand there, section by section, and the face that it tells. */
final class Document {
    private static final Path PATH = Path.of("../shared/DOC.md");
    // "0 .. 3" is no end of a sentence: behind an end comes a great letter, or the line of a new part.
    private static final String END = "(?<=\\.) (?=[A-Z=])";
    private static final Pattern PROMISE = Pattern.compile("Promise (\\d+): (.+)");
    private static final Pattern SIGNATURE = Pattern.compile("`([^`]+)`: (.+)");

    private final Map<String, List<String>> sections = new LinkedHashMap<>();
    private final List<String> face = new ArrayList<>();
    private final Map<Integer, String> signatures = new LinkedHashMap<>();

    Document() {
        String section = "";
        String block = "";
        for (String line : lines()) {
            if (line.startsWith("```")) {
                block = line.substring(3);
            } else if (block.equals("java")) {
                face.add(line.trim());
            } else if (line.startsWith("#")) {
                section = line.replaceFirst("#+ ", "");
                sections.put(section, new ArrayList<>());
            } else if (!line.isBlank()) {
                split(section, line.trim());
            }
        }
    }

    private static List<String> lines() {
        try {
            return Files.readAllLines(PATH);
        } catch (IOException e) {
            throw new UncheckedIOException(e);
        }
    }

    private void split(String section, String line) {
        String words = line;
        Matcher promise = PROMISE.matcher(section);
        Matcher signature = SIGNATURE.matcher(line);
        if (promise.matches() && signature.matches()) {
            signatures.put(Integer.parseInt(promise.group(1)), signature.group(1));
            words = signature.group(2);
        }
        for (String sentence : words.split(END)) {
            sections.get(section).add(sentence.replaceFirst("^=+ \\d ", ""));
        }
    }

    /** The titles of the sections, in their order. */
    List<String> titles() {
        return new ArrayList<>(sections.keySet());
    }

    List<String> sentences(String section) {
        return sections.getOrDefault(section, List.of());
    }

    /** The sentences of a promise, but for its signature. */
    List<String> sentences(int promise) {
        for (String section : sections.keySet()) {
            if (section.startsWith("Promise " + promise + ":")) {
                return sentences(section);
            }
        }
        return List.of();
    }

    /** What stands between the signs ` at the beginning of each promise. */
    Map<Integer, String> signatures() {
        return signatures;
    }

    /** The lines of the public face. */
    List<String> face() {
        return face;
    }
}
