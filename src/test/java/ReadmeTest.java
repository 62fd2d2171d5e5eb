import java.io.IOException;
import java.lang.reflect.InvocationTargetException;
import java.lang.reflect.Method;
import java.lang.reflect.Modifier;
import java.net.URL;
import java.net.URLClassLoader;
import java.nio.file.Files;
import java.nio.file.Path;
import java.util.Map;
import java.util.function.BiConsumer;
import java.util.regex.Matcher;
import java.util.regex.Pattern;
import java.util.stream.Collectors;
import java.util.stream.Stream;
import javax.tools.JavaCompiler;
import javax.tools.ToolProvider;

/** Holds README.md against the document's words, and runs its examples: each call answers what is told behind it. */
public final class ReadmeTest {
    private static final Due DUE = new Due("ReadmeTest");
    private static final Pattern EXAMPLE = Pattern.compile("```java\n(.*?)```", Pattern.DOTALL);
    private static final Pattern TOLD = Pattern.compile("(?m)^bench\\.(.*\\)); *// (-?\\d+): .*$");

    private ReadmeTest() {
    }

    public static void main(String[] args) throws Exception {
        String page = Files.readString(Path.of("README.md"));
        wordsOfTheDocument(page);
        everyCallIsInAnExample(page);
        everyTestIsNamed(page);
        examples(page);
        DUE.end();
    }

    private static void wordsOfTheDocument(String page) throws IOException {
        if (!Document.isHere()) {
            System.out.println("ReadmeTest: the document is not here: its words are not compared");
            return;
        }
        Document document = Document.read();
        String words = inOneLine(page);
        for (Map.Entry<String, String> entry : document.sections.entrySet()) {
            String call = document.calls.get(entry.getKey());
            String due = call == null ? entry.getValue() : "- `" + call + "`: " + entry.getValue();
            // A page tells what it is at its head, and for how many calls an object is used further down.
            for (String part : entry.getKey().equals("bench00") ? due.split("(?<=meetings\\.) ") : new String[] {due}) {
                DUE.holds("README.md says: " + part, words.contains(part));
            }
        }
        DUE.is("calls of the document, and its constructor", document.calls.size(), 32);
    }

    private static String inOneLine(String text) {
        return text.replaceAll("\\s+", " ");
    }

    private static void everyCallIsInAnExample(String page) {
        String examples = EXAMPLE.matcher(page).results().map(found -> found.group(1)).collect(Collectors.joining());
        for (Method method : RoadColours.class.getDeclaredMethods()) {
            if (Modifier.isPublic(method.getModifiers())) {
                DUE.holds("an example calls " + method.getName(), examples.contains("bench." + method.getName() + "("));
            }
        }
    }

    private static void everyTestIsNamed(String page) throws IOException {
        try (Stream<Path> files = Files.list(Path.of("src/test/java"))) {
            for (Path file : files.sorted().collect(Collectors.toList())) {
                String name = file.getFileName().toString().replace(".java", "");
                DUE.holds("README.md names " + name, page.contains(name));
            }
        }
        DUE.holds("README.md names .ci/run", page.contains("bash .ci/run"));
    }

    private static void examples(String page) throws Exception {
        Path folder = Files.createTempDirectory("readme");
        int made = 0;
        Matcher example = EXAMPLE.matcher(page);
        while (example.find()) {
            made++;
            runExample(folder, "Example" + made, example.group(1));
        }
        DUE.is("examples", made, 5);
        try (Stream<Path> files = Files.list(folder)) {
            for (Path file : files.collect(Collectors.toList())) {
                Files.delete(file);
            }
        }
        Files.delete(folder);
    }

    private static void runExample(Path folder, String name, String code) throws Exception {
        long told = code.lines().filter(line -> line.startsWith("bench.")).count();
        DUE.is("calls of " + name + " with an answer", TOLD.matcher(code).results().count(), told);
        Path file = folder.resolve(name + ".java");
        Files.writeString(file, "public final class " + name + " {\n"
            + "    public static void run(java.util.function.BiConsumer<String, long[]> due) {\n"
            + TOLD.matcher(code).replaceAll("due.accept(\"$1\", new long[] {bench.$1, $2});") + "    }\n}\n");
        JavaCompiler compiler = ToolProvider.getSystemJavaCompiler();
        String classes = System.getProperty("java.class.path");
        int failed = compiler == null ? 1
            : compiler.run(null, null, null, "-cp", classes, "-d", folder.toString(), file.toString());
        DUE.is("errors of " + name, failed, 0);
        if (failed != 0) {
            return;
        }
        BiConsumer<String, long[]> due = (call, both) -> DUE.is(name + ": " + call, both[0], both[1]);
        try (URLClassLoader loader = new URLClassLoader(new URL[] {folder.toUri().toURL()})) {
            loader.loadClass(name).getMethod("run", BiConsumer.class).invoke(null, due);
        } catch (InvocationTargetException thrown) {
            DUE.same(name + " ended with", String.valueOf(thrown.getCause()), "no exception");
        }
    }
}
