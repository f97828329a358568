/** Counts answers that are not the ones due, and ends a test with exit code 1 if there was one. */
final class Check {
    private final String name;
    private String part = "";
    private int calls = 0;
    private int wrong = 0;

    Check(String name) {
        this.name = name;
    }

    /** What follows is told as a part of this name. */
    void begin(String itsPart) {
        part = itsPart.isEmpty() ? "" : itsPart + ": ";
    }

    int answers() {
        return calls;
    }

    void due(String call, long got, long want) {
        calls++;
        if (got != want) {
            wrong++;
            if (wrong <= 50) {
                System.out.println(name + ": " + part + call + " answered " + got + ", due is " + want);
            }
        }
    }

    void holds(String what, boolean so) {
        due(what, so ? 1 : 0, 1);
    }

    boolean failed() {
        return wrong > 0;
    }

    void end() {
        System.out.println(name + ": " + calls + " answers, " + wrong + " wrong");
        if (wrong > 0 || calls == 0) {
            System.exit(1);
        }
    }

    static FairBlocks write(FairBlocks x, String text) {
        for (int i = 0; i < text.length(); i++) {
            x.write(text.charAt(i));
        }
        return x;
    }

    static FairBlocks cell(String text) {
        FairBlocks x = write(new FairBlocks(), text);
        if (x.cell() < 0) {
            throw new IllegalStateException("no cell: " + text);
        }
        return x;
    }

    /** All that count() and user() tell of it, so that two standings can be compared. */
    static String standing(FairBlocks x) {
        StringBuilder all = new StringBuilder();
        for (int what = 0; what <= 9; what++) {
            all.append(x.count(what)).append(' ');
        }
        for (int user = 0; user < x.count(1); user++) {
            for (int what = 0; what <= 10; what++) {
                all.append(x.user(user, what)).append(' ');
            }
        }
        return all.toString();
    }
}
