import java.lang.reflect.Method;
import java.lang.reflect.Modifier;
import java.nio.file.Files;
import java.nio.file.Path;
import java.util.List;
import java.util.regex.Matcher;
import java.util.regex.Pattern;

/** What README.md says of each call is so: its rows are run, and every call is told of. */
public final class ReadmeTest {
    private static final Check CHECK = new Check("ReadmeTest");
    private static final Pattern ROW = Pattern.compile("x\\.(\\w+)\\(([^)]*)\\);\\s*// (-?\\d+|[A-Z]+)\\b.*");
    private static final Pattern CELL = Pattern.compile("\"(C[^\"]*)\"\\.toCharArray");

    public static void main(String[] args) throws Exception {
        String readme = Files.readString(Path.of("README.md"));
        rows(readme);
        everyCall(readme);
        CHECK.holds("it says how the tests are run", readme.contains(".ci/run"));
        everyTest(readme);
        CHECK.end();
    }

    private static void rows(String readme) throws Exception {
        Matcher cell = CELL.matcher(readme);
        CHECK.holds("there is a cell", cell.find());
        FairBlocks x = Check.write(new FairBlocks(), cell.group(1));
        int found = 0;
        for (String line : readme.split("\n")) {
            Matcher row = ROW.matcher(line);
            if (row.matches()) {
                found++;
                CHECK.due(line, call(x, row.group(1), row.group(2)), due(row.group(3)));
            }
        }
        CHECK.holds("rows: " + found, found >= 30);
    }

    private static long call(FairBlocks x, String name, String told) throws Exception {
        String[] parts = told.isBlank() ? new String[0] : told.split(", ");
        for (Method m : FairBlocks.class.getMethods()) {
            if (m.getName().equals(name) && m.getDeclaringClass() == FairBlocks.class) {
                Object[] given = new Object[parts.length];
                for (int i = 0; i < parts.length; i++) {
                    given[i] = argument(m.getParameterTypes()[i], parts[i]);
                }
                return ((Number) m.invoke(x, given)).longValue();
            }
        }
        throw new IllegalStateException("no call " + name);
    }

    private static Object argument(Class<?> kind, String told) {
        if (kind == boolean.class) {
            return Boolean.valueOf(told);
        }
        return kind == long.class ? (Object) Long.valueOf(told.replace("L", "")) : (Object) Integer.valueOf(told);
    }

    private static long due(String told) throws Exception {
        return Character.isUpperCase(told.charAt(0))
            ? FairBlocks.class.getField(told).getInt(null) : Long.parseLong(told);
    }

    private static void everyCall(String readme) {
        for (Method m : FairBlocks.class.getDeclaredMethods()) {
            if (Modifier.isPublic(m.getModifiers())) {
                CHECK.holds("a row has " + m.getName(), readme.contains("x." + m.getName() + "("));
                CHECK.holds("the table has " + m.getName(), readme.contains("`" + m.getName() + "`"));
            }
        }
    }

    private static void everyTest(String readme) throws Exception {
        try (var files = Files.list(Path.of("src/test/java"))) {
            List<String> names = files.map(f -> f.getFileName().toString()).filter(f -> f.endsWith("Test.java")).toList();
            for (String name : names) {
                String test = name.substring(0, name.length() - ".java".length());
                CHECK.holds("the table has " + test, readme.contains("| " + test + " |"));
            }
        }
    }
}
