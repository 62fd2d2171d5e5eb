import java.io.IOException;
import java.lang.reflect.InvocationTargetException;
import java.lang.reflect.Method;
import java.lang.reflect.Modifier;
import java.util.ArrayList;
import java.util.Arrays;
import java.util.Comparator;
import java.util.LinkedHashMap;
import java.util.List;
import java.util.Map;
import java.util.regex.Matcher;
import java.util.regex.Pattern;

/**
 * Runs every test of the document's sentences, each named after its promise and quoting the words that it holds the
 * class to; and looks that the words stand there, and that every word of the document's promises is quoted by a test.
 */
public final class EdgesTest {
    private static final Class<?>[] TESTS = {BenchEdges.class, TermsEdges.class, MendTwoEvenEdges.class,
        NetEdges.class, ColouringEdges.class, SearchEdges.class, SquareEdges.class};
    private static final Pattern NAME = Pattern.compile("(bench|terms|promise)(\\d\\d)[A-Z]\\w*");

    private int run = 0;
    private int failed = 0;
    private int asked = 0;
    private final Map<String, List<String>> quoted = new LinkedHashMap<>();

    private EdgesTest() {
    }

    public static void main(String[] args) throws IOException {
        EdgesTest all = new EdgesTest();
        for (Class<?> type : TESTS) {
            all.runEach(type);
        }
        all.everyPromiseHasOne();
        all.compareWithDocument();
        System.out.println("EdgesTest: " + all.run + " tests with " + all.asked + " answers, " + all.failed + " failed");
        if (all.failed != 0) {
            System.exit(1);
        }
    }

    private void runEach(Class<?> type) {
        Method[] methods = type.getDeclaredMethods();
        Arrays.sort(methods, Comparator.comparing(Method::getName));
        for (Method method : methods) {
            Asks asks = method.getAnnotation(Asks.class);
            Matcher name = NAME.matcher(method.getName());
            if (asks != null && name.matches()) {
                quoted.computeIfAbsent(name.group(1) + name.group(2), key -> new ArrayList<>()).add(asks.value());
                runOne(method);
            } else if (!Modifier.isPrivate(method.getModifiers())) {
                fail(method.getName() + " is no test: it has no words, or no promise's number in its name");
            }
        }
    }

    private void runOne(Method test) {
        Due due = new Due(test.getName());
        run++;
        try {
            test.invoke(null, due);
        } catch (IllegalAccessException | InvocationTargetException thrown) {
            fail(test.getName() + " ended with " + (thrown.getCause() == null ? thrown : thrown.getCause()));
            return;
        }
        asked += due.howManyAsked();
        if (due.howManyAsked() == 0) {
            fail(test.getName() + " asks nothing");
        } else if (!due.allRight()) {
            fail(test.getName());
        }
    }

    private void everyPromiseHasOne() {
        needsOne("bench00");
        for (int n = 0; n <= 4; n++) {
            needsOne(String.format("terms%02d", n));
        }
        for (int n = 1; n <= 32; n++) {
            needsOne(String.format("promise%02d", n));
        }
    }

    private void needsOne(String section) {
        if (!quoted.containsKey(section)) {
            fail(section + " has no test");
        }
    }

    private void compareWithDocument() throws IOException {
        if (!Document.isHere()) {
            System.out.println("EdgesTest: the document is not here: the quoted words are not compared with it");
            return;
        }
        Map<String, String> sections = Document.read().sections;
        for (Map.Entry<String, List<String>> entry : quoted.entrySet()) {
            String text = sections.getOrDefault(entry.getKey(), "");
            for (String words : entry.getValue()) {
                if (!text.contains(words)) {
                    fail(entry.getKey() + " of the document does not say: " + words);
                }
            }
        }
        for (Map.Entry<String, String> entry : sections.entrySet()) {
            everyWordIsQuoted(entry.getKey(), entry.getValue());
        }
    }

    private void everyWordIsQuoted(String section, String text) {
        char[] left = text.toCharArray();
        for (String words : quoted.getOrDefault(section, List.of())) {
            for (int at = text.indexOf(words); at >= 0; at = text.indexOf(words, at + 1)) {
                Arrays.fill(left, at, at + words.length(), '\n');
            }
        }
        for (String words : new String(left).split("\n+")) {
            if (words.chars().anyMatch(Character::isLetterOrDigit)) {
                fail(section + " has no test for the words: " + words.strip());
            }
        }
    }

    private void fail(String what) {
        failed++;
        System.out.println("EdgesTest: FAILED " + what);
    }
}
