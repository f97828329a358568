import java.lang.reflect.Method;
import java.nio.file.Files;
import java.nio.file.Path;
import java.util.ArrayList;
import java.util.Comparator;
import java.util.List;
import java.util.Map;
import java.util.TreeMap;
import java.util.TreeSet;

/** Runs the tests of a class that are each for one sentence of the document, and looks whether it says so. */
final class Edges {
    private Edges() {
    }

    static List<Method> testsOf(Class<?> tests) {
        List<Method> all = new ArrayList<>();
        for (Method m : tests.getDeclaredMethods()) {
            if (m.isAnnotationPresent(Says.class)) {
                all.add(m);
            }
        }
        all.sort(Comparator.comparing(Method::getName));
        return all;
    }

    static void run(Class<?> tests, Check check) throws Exception {
        Map<String, String> document = document();
        for (Method m : testsOf(tests)) {
            Says says = m.getAnnotation(Says.class);
            check.begin(m.getName());
            if (!document.isEmpty()) {
                check.holds("the document says at " + says.at() + ": " + says.value(),
                    document.getOrDefault(says.at(), "").contains(says.value()));
            }
            int before = check.answers();
            m.invoke(null);
            check.begin(m.getName());
            check.holds("it asks something", check.answers() > before);
        }
        check.begin("");
    }

    /** Each promise has at least one test of its own among these. */
    static void allPromises(Class<?> tests, Check check) {
        TreeSet<String> heads = new TreeSet<>();
        for (Method m : testsOf(tests)) {
            heads.add(m.getAnnotation(Says.class).at());
        }
        for (int i = 1; i <= 28; i++) {
            check.holds("promise " + i + " has a test", heads.contains("Promise " + i));
        }
    }

    /** What stands under each head; nothing, where the document is not at hand. */
    private static Map<String, String> document() throws Exception {
        Map<String, String> parts = new TreeMap<>();
        Path path = Path.of(System.getProperty("shared", "../shared"), "DOC.md");
        if (!Files.exists(path)) {
            System.out.println("no document at " + path + ": what it says is not looked up");
            return parts;
        }
        for (String part : Files.readString(path).split("(?m)^## ")) {
            int end = part.indexOf('\n');
            if (end > 0) {
                parts.put(part.substring(0, end).split(":")[0], part.substring(end));
            }
        }
        return parts;
    }
}
