import java.io.IOException;
import java.nio.file.Files;
import java.nio.file.Path;
import java.util.ArrayList;
import java.util.LinkedHashMap;
import java.util.List;
import java.util.Map;
import java.util.regex.Matcher;
import java.util.regex.Pattern;

/** The document that the class is held to, parted so that tests can look up its words. */
final class Document {
    private static final Path PLACE = Path.of("../shared/DOC.md");
    private static final Pattern PROMISE = Pattern.compile("## Promise (\\d+): .*");
    private static final Pattern TERM = Pattern.compile("(\\d)\\. .*");
    private static final Pattern CALL = Pattern.compile("`([^`]*)`: (.*)");

    /** The texts of what it is (bench00), the terms (terms00 being ahead of the first) and promises, each in one line. */
    final Map<String, String> sections = new LinkedHashMap<>();
    /** For each promise its call, as `int post()`. */
    final Map<String, String> calls = new LinkedHashMap<>();
    /** The lines of the class in the public face. */
    final List<String> face = new ArrayList<>();

    private Document(List<String> lines) {
        String section = "";
        for (String line : lines) {
            Matcher promise = PROMISE.matcher(line);
            if (promise.matches()) {
                section = String.format("promise%02d", Integer.parseInt(promise.group(1)));
            } else if (line.startsWith("#")) {
                section = sectionOf(line);
            } else {
                section = add(section, line);
            }
        }
    }

    static boolean isHere() {
        return Files.isReadable(PLACE);
    }

    static Document read() throws IOException {
        return new Document(Files.readAllLines(PLACE));
    }

    private static String sectionOf(String heading) {
        switch (heading) {
            case "## What it is":
                return "bench00";
            case "## The public face":
                return "face";
            case "## Terms":
                return "terms00";
            default:
                return "";
        }
    }

    /** Adds a line to its section, which a term's number begins anew, and answers that section. */
    private String add(String section, String line) {
        String words = line.strip();
        if (section.isEmpty() || words.isEmpty() || words.startsWith("```")) {
            return section;
        }
        if (section.equals("face")) {
            face.add(words);
            return section;
        }
        String into = section;
        Matcher term = TERM.matcher(line);
        Matcher call = CALL.matcher(words);
        if (section.startsWith("terms") && term.matches()) {
            into = "terms0" + term.group(1);
            words = words.substring(3);
        } else if (call.matches()) {
            calls.put(section, call.group(1));
            words = call.group(2);
        }
        sections.merge(into, words, (one, two) -> one + " " + two);
        return into;
    }
}
