import java.io.IOException;
import java.lang.reflect.InvocationTargetException;
import java.lang.reflect.Method;
import java.lang.reflect.Modifier;
import java.nio.file.Files;
import java.nio.file.Path;
import java.util.ArrayList;
import java.util.Arrays;
import java.util.Comparator;
import java.util.LinkedHashMap;
import java.util.List;
import java.util.Map;
import java.util.regex.Matcher;
import java.util.regex.Pattern;

/**
 * Runs every test of the document's edges, each named after its promise and quoting the words that it holds the
 * class to; and looks that the words stand there, and that every sentence of the document is quoted by a test.
 */
public final class EdgesTest {
    private static final Class<?>[] TESTS = {TermsEdges.class, MendTwoEvenEdges.class, NetEdges.class,
        ColouringEdges.class, SearchEdges.class, SquareEdges.class};
    private static final Path DOCUMENT = Path.of("../shared/DOC.md");
    private static final Pattern NAME = Pattern.compile("(terms|promise)(\\d\\d)[A-Z]\\w*");
    private static final Pattern PROMISE = Pattern.compile("## Promise (\\d+): .*");
    private static final Pattern TERM = Pattern.compile("(\\d)\\. .*");

    private int run = 0;
    private int failed = 0;
    private int asked = 0;
    private final Map<String, List<String>> quoted = new LinkedHashMap<>();

    private EdgesTest() {
    }

    public static void main(String[] args) throws IOException {
        EdgesTest all = new EdgesTest();
        for (Class<?> type : TESTS) {
            all.runEach(type);
        }
        all.everyPromiseHasOne();
        all.compareWithDocument();
        System.out.println("EdgesTest: " + all.run + " tests with " + all.asked + " answers, " + all.failed + " failed");
        if (all.failed != 0) {
            System.exit(1);
        }
    }

    private void runEach(Class<?> type) {
        Method[] methods = type.getDeclaredMethods();
        Arrays.sort(methods, Comparator.comparing(Method::getName));
        for (Method method : methods) {
            Asks asks = method.getAnnotation(Asks.class);
            Matcher name = NAME.matcher(method.getName());
            if (asks != null && name.matches()) {
                quoted.computeIfAbsent(name.group(1) + name.group(2), key -> new ArrayList<>()).add(asks.value());
                runOne(method);
            } else if (!Modifier.isPrivate(method.getModifiers())) {
                fail(method.getName() + " is no test: it has no words, or no promise's number in its name");
            }
        }
    }

    private void runOne(Method test) {
        Due due = new Due(test.getName());
        run++;
        try {
            test.invoke(null, due);
        } catch (IllegalAccessException | InvocationTargetException thrown) {
            fail(test.getName() + " ended with " + (thrown.getCause() == null ? thrown : thrown.getCause()));
            return;
        }
        asked += due.howManyAsked();
        if (due.howManyAsked() == 0) {
            fail(test.getName() + " asks nothing");
        } else if (!due.allRight()) {
            fail(test.getName());
        }
    }

    private void everyPromiseHasOne() {
        for (int n = 0; n <= 4; n++) {
            needsOne(String.format("terms%02d", n));
        }
        for (int n = 1; n <= 32; n++) {
            needsOne(String.format("promise%02d", n));
        }
    }

    private void needsOne(String section) {
        if (!quoted.containsKey(section)) {
            fail(section + " has no test");
        }
    }

    private void compareWithDocument() throws IOException {
        if (!Files.isReadable(DOCUMENT)) {
            System.out.println("EdgesTest: " + DOCUMENT + " is not here: the quoted words are not compared with it");
            return;
        }
        Map<String, String> sections = sections(Files.readAllLines(DOCUMENT));
        for (Map.Entry<String, List<String>> entry : quoted.entrySet()) {
            String text = sections.getOrDefault(entry.getKey(), "");
            for (String words : entry.getValue()) {
                if (!text.contains(words)) {
                    fail(entry.getKey() + " of the document does not say: " + words);
                }
            }
        }
        for (Map.Entry<String, String> entry : sections.entrySet()) {
            for (String sentence : entry.getValue().split("(?<=[^.]\\.\\)?) +")) {
                List<String> words = quoted.getOrDefault(entry.getKey(), List.of());
                if (words.stream().noneMatch(sentence::contains)) {
                    fail(entry.getKey() + " has no test for the sentence: " + sentence);
                }
            }
        }
    }

    /** The texts of the terms, 0 being what stands ahead of the first, and of the promises, each in one line. */
    private static Map<String, String> sections(List<String> lines) {
        Map<String, String> sections = new LinkedHashMap<>();
        String section = "";
        for (String line : lines) {
            Matcher promise = PROMISE.matcher(line);
            Matcher term = TERM.matcher(line);
            String words = line.strip();
            if (promise.matches()) {
                section = String.format("promise%02d", Integer.parseInt(promise.group(1)));
                continue;
            } else if (line.startsWith("#")) {
                section = line.equals("## Terms") ? "terms00" : "";
            } else if (section.startsWith("terms") && term.matches()) {
                section = "terms0" + term.group(1);
                words = words.substring(3);
            }
            if (!section.isEmpty() && !words.isEmpty() && !line.startsWith("#") && !line.startsWith("```")) {
                sections.merge(section, words.replaceFirst("^`[^`]*`: ", ""), (one, two) -> one + " " + two);
            }
        }
        return sections;
    }

    private void fail(String what) {
        failed++;
        System.out.println("EdgesTest: FAILED " + what);
    }
}
