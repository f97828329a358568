import java.lang.management.ManagementFactory;
import java.lang.reflect.Constructor;
import java.lang.reflect.Field;
import java.lang.reflect.Method;
import java.lang.reflect.Modifier;
import java.nio.file.Files;
import java.nio.file.Path;
import java.util.Arrays;
import java.util.Set;
import java.util.TreeSet;
import java.util.regex.Matcher;
import java.util.regex.Pattern;

/** What LANGUAGE.md says of the file: its face, words that are not in it, no call that throws, little room. */
public final class LanguageTest {
    private static final Check CHECK = new Check("LanguageTest");
    private static final String[] FACE = {
        "int write(int)", "int wipe()", "int fault()", "int cell()", "int user(int,int)", "int slot(int)",
        "int turn(int)", "int drop(int)", "int set(int,int,int)", "int patience(int)", "int undo()",
        "int ahead(int,int,int)", "int who(int)", "int longest(int,int)", "int empty(int)", "int best(int)",
        "int judge(int,long)", "int see(int,int,int,int,int)", "int unsee()", "int which()",
        "int share(int,boolean)", "int fails(int,int,int,boolean)", "long seed(long)", "int drawn(int)",
        "int keep(int)", "int again(int)", "int count(int)"};
    private static final String[] FORBIDDEN = {
        "\\bthrow", "\\btry\\b", "\\bcatch\\b", "\\bsynchronized\\b", "\\bassert\\b", "->", "::", "\\bimport\\b",
        "\\bpackage\\b", "\\bprotected\\b", "Exact\\b", "MAX_VALUE", "MIN_VALUE", "\\bvar\\b", "System\\.(?!arraycopy)"};
    private static final int[] STRANGE = {
        Integer.MIN_VALUE, -1000, -9, -1, 0, 1, 2, 3, 4, 5, 6, 9, 10, 11, 14, 60, 80, 99, 100, 255, 256, Integer.MAX_VALUE};

    public static void main(String[] args) throws Exception {
        face();
        constants();
        words();
        divisors();
        strangeArguments();
        room();
        CHECK.end();
    }

    private static String told(Method m) {
        StringBuilder s = new StringBuilder(m.getReturnType().toString()).append(' ').append(m.getName()).append('(');
        for (Class<?> p : m.getParameterTypes()) {
            s.append(s.charAt(s.length() - 1) == '(' ? "" : ",").append(p);
        }
        return s.append(')').toString();
    }

    private static void face() {
        Set<String> due = new TreeSet<>(Set.of(FACE));
        Set<String> names = new TreeSet<>();
        Set<String> there = new TreeSet<>();
        for (Method m : FairBlocks.class.getDeclaredMethods()) {
            if (!Modifier.isPrivate(m.getModifiers())) {
                there.add(told(m));
                names.add(m.getName());
                CHECK.holds(m + " is public", Modifier.isPublic(m.getModifiers()));
                CHECK.holds(m + " is not static", !Modifier.isStatic(m.getModifiers()));
            }
        }
        CHECK.holds("the methods are " + there, due.equals(there));
        for (Method m : FairBlocks.class.getDeclaredMethods()) {
            CHECK.holds("private " + m, !Modifier.isPrivate(m.getModifiers()) || !names.contains(m.getName()));
        }
        for (Class<?> inside : FairBlocks.class.getDeclaredClasses()) {
            CHECK.holds(inside + " is static", Modifier.isStatic(inside.getModifiers()));
            for (Method m : inside.getDeclaredMethods()) {
                CHECK.holds(m + " bears a name of its own", !names.contains(m.getName()));
            }
        }
        CHECK.holds("final", Modifier.isFinal(FairBlocks.class.getModifiers()));
        Constructor<?>[] made = FairBlocks.class.getDeclaredConstructors();
        CHECK.due("constructors", made.length, 1);
        CHECK.due("its parameters", made[0].getParameterCount(), 0);
        CHECK.holds("it is public", Modifier.isPublic(made[0].getModifiers()));
        CHECK.holds("some twelve classes", FairBlocks.class.getDeclaredClasses().length <= 11);
    }

    private static void constants() throws Exception {
        CHECK.due("UNKNOWN", FairBlocks.UNKNOWN, -1);
        CHECK.due("OUTSIDE", FairBlocks.OUTSIDE, -2);
        CHECK.due("STATE", FairBlocks.STATE, -3);
        CHECK.due("FULL", FairBlocks.FULL, -4);
        CHECK.due("NONE", FairBlocks.NONE, -9);
        int open = 0;
        for (Field f : FairBlocks.class.getDeclaredFields()) {
            boolean isPrivate = Modifier.isPrivate(f.getModifiers());
            open += isPrivate ? 0 : 1;
            CHECK.holds(f + " is final if it is static",
                !Modifier.isStatic(f.getModifiers()) || Modifier.isFinal(f.getModifiers()));
        }
        CHECK.due("open fields", open, 5);
    }

    private static void words() throws Exception {
        String source = source();
        String bare = bare(source);
        for (String word : FORBIDDEN) {
            CHECK.holds("the file has no " + word, !Pattern.compile(word).matcher(bare).find());
        }
        CHECK.holds("letters 1 to 127 alone", source.chars().allMatch(c -> c > 0 && c < 128));
    }

    private static String source() throws Exception {
        return Files.readString(Path.of("src/main/java/FairBlocks.java"));
    }

    private static String bare(String source) {
        return source.replaceAll("(?s)/\\*.*?\\*/", "").replaceAll("//[^\n]*", "");
    }

    /** What divides is a number, a constant, or a name that was held against 0 a few lines ahead or in its own. */
    private static void divisors() throws Exception {
        String[] lines = bare(source()).split("\n");
        Pattern division = Pattern.compile("[/%]=?\\s*([A-Za-z_0-9.]*\\(?)");
        for (int i = 0; i < lines.length; i++) {
            String near = String.join("\n", Arrays.copyOfRange(lines, Math.max(0, i - 4), i + 1));
            Matcher found = division.matcher(lines[i]);
            while (found.find()) {
                String by = found.group(1);
                boolean fixed = by.matches("[1-9][0-9]*L?|[A-Z_]+");
                boolean looked = Pattern.compile("\\b" + Pattern.quote(by) + " (>|!=|<=) 0").matcher(near).find();
                CHECK.holds("a divisor is looked at: " + lines[i].strip(), fixed || looked);
            }
        }
    }

    private static long argument(Class<?> kind, int strange) {
        return kind == long.class && strange == Integer.MAX_VALUE ? Long.MAX_VALUE
            : kind == long.class && strange == Integer.MIN_VALUE ? Long.MIN_VALUE : strange;
    }

    /** No call throws, and what is refused changes nothing. */
    private static void strangeArguments() throws Exception {
        String[] cells = {"", "C110", "C449u9199.", "C430u9119.u9939.u1101.u2102.u4505.", "C110u9100."};
        for (Method m : FairBlocks.class.getDeclaredMethods()) {
            if (!Modifier.isPublic(m.getModifiers())) {
                continue;
            }
            for (String cell : cells) {
                for (int first : STRANGE) {
                    for (int others : STRANGE) {
                        strangeCall(m, cell, first, others);
                    }
                }
            }
        }
    }

    private static void strangeCall(Method m, String cell, int first, int others) throws Exception {
        FairBlocks x = cell.isEmpty() ? new FairBlocks() : Check.cell(cell);
        x.slot(3);
        String before = Check.standing(x);
        Class<?>[] kinds = m.getParameterTypes();
        Object[] given = new Object[kinds.length];
        for (int i = 0; i < kinds.length; i++) {
            long v = argument(kinds[i], i == 0 ? first : others);
            if (kinds[i] == boolean.class) {
                given[i] = v > 0;
            } else if (kinds[i] == long.class) {
                given[i] = v;
            } else {
                given[i] = (int) v;
            }
        }
        long answer = ((Number) m.invoke(x, given)).longValue();
        if (answer < 0 && answer >= -4 && m.getReturnType() == int.class) {
            CHECK.holds(m + " refused " + first + " " + others + " changes nothing",
                before.equals(Check.standing(x)));
        }
    }

    /** All calls of a run live in one room, so no call may make objects: rows are made in the constructor. */
    private static void room() {
        com.sun.management.ThreadMXBean threads =
            (com.sun.management.ThreadMXBean) ManagementFactory.getThreadMXBean();
        FairBlocks x = Check.cell("C430u9119.u9939.u1101.u2102.u4505.");
        dearCalls(x);
        long before = threads.getCurrentThreadAllocatedBytes();
        for (int i = 0; i < 30; i++) {
            dearCalls(x);
        }
        long made = threads.getCurrentThreadAllocatedBytes() - before;
        CHECK.holds("bytes made by 450 calls: " + made, made < 20000);
    }

    private static int dearCalls(FairBlocks x) {
        return x.slot(9) + x.turn(0) + x.undo() + x.ahead(99, 0, 5) + x.who(0) + x.longest(0, 99) + x.best(0)
            + x.judge(4, 199199199600L) + x.which() + x.share(0, true) + x.fails(0, 6, 5, true) + x.drawn(20)
            + x.keep(0) + x.again(0) + x.cell();
    }
}
