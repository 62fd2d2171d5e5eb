import java.io.IOException;
import java.lang.reflect.Constructor;
import java.lang.reflect.Field;
import java.lang.reflect.Method;
import java.lang.reflect.Modifier;
import java.nio.file.Files;
import java.nio.file.Path;
import java.util.ArrayList;
import java.util.List;
import java.util.Set;
import java.util.TreeSet;
import java.util.regex.Matcher;
import java.util.regex.Pattern;

/** Holds the class against the document's face and those rules of the language that can be read off. */
public final class LanguageRulesTest {
    private static final Due DUE = new Due("LanguageRulesTest");
    private static final String FACE = "int post(); int road(int,int); int drop(); int paint(int,int); int wash(); "
        + "int of(int,int); int roads(int); int free(int); int clash(); int chain(int,int,int); int swap(int,int,int); "
        + "int mend(int); int heaps(); int two(); int even(int); int full(int); int least(); int first(int); "
        + "long count(int); int critical(); int need(int); int heap(); int list(int,int); int choose(); int square(int); "
        + "int hold(int); int on(); int rows(); int at(int,int); int meets(int,int,int); int many(int)";
    private static final Pattern FORBIDDEN = Pattern.compile("\\b(throw|throws|try|catch|finally|synchronized|assert|import"
        + "|hashCode|toString|\\w+Exact|volatile|native|while|do)\\b|->|::");
    private static final Pattern METHOD = Pattern.compile("^ {4,8}(?:[\\w\\[\\]]+ )*\\w+\\([^;]*\\) \\{$");

    private LanguageRulesTest() {
    }

    public static void main(String[] args) throws IOException {
        faceIsTheDocuments();
        face();
        classesInside();
        source(Files.readAllLines(Path.of("src/main/java/RoadColours.java")));
        DUE.end();
    }

    /** The document's own lines of the face, without the names of what a call takes. */
    private static void faceIsTheDocuments() throws IOException {
        if (!Document.isHere()) {
            return;
        }
        List<String> calls = new ArrayList<>();
        for (String line : Document.read().face) {
            if (line.matches("public (int|long) .*")) {
                calls.add(line.replaceAll("public |;", "").replaceAll("int \\w+(?=[,)])", "int").replace(", ", ","));
            }
        }
        DUE.same("the face that is looked for", FACE, String.join("; ", calls));
    }

    private static void face() {
        Set<String> wanted = new TreeSet<>(List.of(FACE.split("; ")));
        Set<String> found = new TreeSet<>();
        for (Method method : RoadColours.class.getDeclaredMethods()) {
            if (Modifier.isPublic(method.getModifiers())) {
                found.add(told(method));
            } else {
                DUE.holds(method + " is private", Modifier.isPrivate(method.getModifiers()));
            }
        }
        if (!found.equals(wanted)) {
            System.out.println("the face is " + found);
        }
        DUE.holds("the face is the document's", found.equals(wanted));
        DUE.holds("the class is final", Modifier.isFinal(RoadColours.class.getModifiers()));
        for (Field field : RoadColours.class.getDeclaredFields()) {
            DUE.holds(field + " is private", Modifier.isPrivate(field.getModifiers()));
        }
        Constructor<?>[] made = RoadColours.class.getDeclaredConstructors();
        DUE.is("constructors", made.length, 1);
        DUE.holds("the constructor is public", Modifier.isPublic(made[0].getModifiers()) && made[0].getParameterCount() == 0);
    }

    private static String told(Method method) {
        List<String> types = new ArrayList<>();
        for (Class<?> type : method.getParameterTypes()) {
            types.add(type.getName());
        }
        return method.getReturnType().getName() + " " + method.getName() + "(" + String.join(",", types) + ")";
    }

    private static void classesInside() {
        Set<String> publicNames = new TreeSet<>();
        for (Method method : RoadColours.class.getDeclaredMethods()) {
            if (Modifier.isPublic(method.getModifiers())) {
                publicNames.add(method.getName());
            } else {
                DUE.holds(method + " has a name of its own", !FACE.contains(" " + method.getName() + "("));
            }
        }
        Class<?>[] inside = RoadColours.class.getDeclaredClasses();
        DUE.holds("at most twelve classes", inside.length < 12);
        for (Class<?> type : inside) {
            DUE.holds(type + " is static and not public",
                    Modifier.isStatic(type.getModifiers()) && !Modifier.isPublic(type.getModifiers()));
            DUE.holds(type + " has at most twenty fields", type.getDeclaredFields().length <= 20);
            for (Method method : type.getDeclaredMethods()) {
                DUE.holds(method + " has a name of its own", !publicNames.contains(method.getName()));
                DUE.holds(method + " takes at most seven", method.getParameterCount() <= 7);
            }
        }
    }

    private static void source(List<String> lines) {
        int start = -1;
        for (int k = 0; k < lines.size(); k++) {
            String line = lines.get(k);
            String code = line.strip().startsWith("*") || line.strip().startsWith("/**") ? "" : line.replaceAll("//.*", "");
            Matcher matcher = FORBIDDEN.matcher(code);
            DUE.holds("line " + (k + 1) + " is in the language: " + line, !matcher.find());
            for (int c = 0; c < line.length(); c++) {
                if (line.charAt(c) > 126) {
                    DUE.holds("line " + (k + 1) + " has plain signs", false);
                }
            }
            if (METHOD.matcher(code).matches()) {
                start = k;
            }
            if (start >= 0 && code.matches(" {4,8}\\}")) {
                DUE.holds("the method at line " + (start + 1) + " is short", k - start < 60);
            }
        }
        DUE.holds("methods were found", start >= 0);
    }
}
