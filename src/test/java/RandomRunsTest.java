import java.util.Random;

/** Long runs of calls by a fixed seed, on the program and on the reference: each answer is the same. */
public final class RandomRunsTest {
    private static final int RUNS = 1500, CALLS = 512;
    private static final int[] WRONG = {-1, -2, 1000, Integer.MAX_VALUE, Integer.MIN_VALUE, 100, 10, 255, 256};

    private final Random random;
    private final FairBlocks x = new FairBlocks();
    private final Reference y = new Reference();
    private final Check check;
    private final int run;
    private int calls = 0;

    private RandomRunsTest(int run, Check check) {
        this.run = run;
        this.check = check;
        random = new Random(run);
    }

    public static void main(String[] args) {
        Check check = new Check("RandomRunsTest");
        for (int run = 0; run < RUNS && !check.failed(); run++) {
            new RandomRunsTest(run, check).go();
        }
        check.end();
    }

    private void same(String call, long got, long want) {
        calls++;
        check.due("run " + run + " call " + calls + " " + call, got, want);
    }

    private void go() {
        if (random.nextInt(20) > 0) {
            tellCell();
        }
        // A cell is told by at most 101 calls, and no other step makes more than two.
        while (calls < CALLS - 1) {
            if (random.nextInt(150) == 0 && calls < CALLS - 101) {
                tellCell();
            } else {
                callOne(random.nextInt(32));
            }
        }
    }

    private int upTo(int least, int most) {
        if (random.nextInt(25) == 0) {
            int kind = random.nextInt(3);
            return kind == 0 ? most + 1 : kind == 1 ? least - 1 : WRONG[random.nextInt(WRONG.length)];
        }
        return least + random.nextInt(most - least + 1);
    }

    private int aUser() {
        int many = y.count(1);
        return random.nextInt(25) == 0 ? upTo(0, 5) : many == 0 ? 0 : random.nextInt(many);
    }

    private String someCell() {
        StringBuilder s = new StringBuilder("C");
        s.append(1 + random.nextInt(4)).append(1 + random.nextInt(4));
        s.append(random.nextInt(3) == 0 ? 0 : random.nextInt(10));
        int users = random.nextInt(8) == 0 ? random.nextInt(7) : 2 + random.nextInt(4);
        boolean thin = random.nextBoolean();
        for (int i = 0; i < users; i++) {
            s.append('u').append(random.nextInt(thin ? 4 : 10)).append(1 + random.nextInt(9));
            s.append(random.nextInt(3) == 0 ? 0 : random.nextInt(6));
            int rates = 1 + random.nextInt(random.nextInt(60) == 0 ? 7 : 6);
            for (int r = 0; r < rates; r++) {
                s.append(random.nextInt(10));
            }
            s.append('.');
        }
        return s.toString();
    }

    private void tellCell() {
        same("wipe()", x.wipe(), y.wipe());
        StringBuilder s = new StringBuilder(someCell());
        if (random.nextInt(6) == 0) {
            s.setLength(random.nextInt(s.length() + 1));
        }
        if (random.nextInt(6) == 0 && s.length() > 0) {
            s.setCharAt(random.nextInt(s.length()), "C0123456789u.xU \n".charAt(random.nextInt(17)));
        }
        if (random.nextInt(30) == 0) {
            s.append("u11111.".repeat(4));
        }
        for (int i = 0; i < s.length(); i++) {
            int letter = s.charAt(i);
            same("write(" + letter + ")", x.write(letter), y.write(letter));
        }
        same("fault()", x.fault(), y.fault());
        same("cell()", x.cell(), y.cell());
    }

    private long someRow(int n) {
        long row = 0;
        for (int i = 0; i < n; i++) {
            int kind = random.nextInt(30) == 0 ? random.nextInt(10) : 1 + random.nextInt(7);
            int second = random.nextInt(30) == 0 ? random.nextInt(10) : y.count(1) == 0 ? 0 : random.nextInt(y.count(1));
            int third = random.nextInt(30) == 0 ? random.nextInt(10) : random.nextInt(2);
            if (kind == 2 || kind == 3) {
                third = second;
                second = random.nextInt(30) == 0 ? 1 : 0;
            } else if (kind == 4) {
                third = random.nextInt(20) == 0 ? 0 : 1 + random.nextInt(9);
            } else if (kind == 5 && random.nextBoolean() && i == 0 && y.user(second, 8) >= 0) {
                third = y.user(second, 8) % 10;
            } else if (kind == 6) {
                third = random.nextInt(4);
            }
            row = row * 1000 + kind * 100 + second * 10 + third;
        }
        return row;
    }

    private void callOne(int kind) {
        switch (kind) {
            case 0, 1, 2, 3 -> act();
            case 4, 5 -> {
                int u = aUser();
                int w = upTo(0, 10);
                same("user(" + u + ", " + w + ")", x.user(u, w), y.user(u, w));
            }
            case 6 -> {
                int n = upTo(0, random.nextBoolean() ? 5 : 99);
                int u = aUser();
                int w = upTo(5, 10);
                same("ahead(" + n + ", " + u + ", " + w + ")", x.ahead(n, u, w), y.ahead(n, u, w));
            }
            case 7, 8 -> {
                int b = upTo(0, 3);
                same("who(" + b + ")", x.who(b), y.who(b));
            }
            case 9 -> {
                int u = aUser();
                int n = upTo(1, random.nextBoolean() ? 9 : 99);
                same("longest(" + u + ", " + n + ")", x.longest(u, n), y.longest(u, n));
            }
            case 10 -> {
                int u = aUser();
                same("empty(" + u + ")", x.empty(u), y.empty(u));
            }
            case 11 -> {
                int u = aUser();
                same("best(" + u + ")", x.best(u), y.best(u));
            }
            case 12, 13, 14 -> {
                int n = upTo(1, 4);
                long row = n >= 1 && n <= 4 ? someRow(random.nextInt(30) == 0 ? n + 1 : n) : random.nextInt(999);
                long told = random.nextInt(40) == 0 ? -row : row;
                same("judge(" + n + ", " + told + ")", x.judge(n, told), y.judge(n, told));
            }
            default -> askMore(kind);
        }
    }

    private void askMore(int kind) {
        switch (kind) {
            case 15, 16 -> seeOne();
            case 17 -> {
                if (random.nextInt(4) == 0) {
                    same("unsee()", x.unsee(), y.unsee());
                }
            }
            case 18, 19 -> same("which()", x.which(), y.which());
            case 20 -> {
                int u = aUser();
                same("share(" + u + ", true)", x.share(u, true), y.share(u, true));
                same("share(" + u + ", false)", x.share(u, false), y.share(u, false));
            }
            case 21 -> {
                int u = aUser();
                int n = upTo(1, 6);
                int t = upTo(0, 10);
                String call = "fails(" + u + ", " + n + ", " + t + ", ";
                same(call + "true)", x.fails(u, n, t, true), y.fails(u, n, t, true));
                same(call + "false)", x.fails(u, n, t, false), y.fails(u, n, t, false));
            }
            case 22 -> {
                long v = random.nextBoolean() ? random.nextLong() : random.nextInt(100);
                same("seed(" + v + ")", x.seed(v), y.seed(v));
            }
            case 23 -> {
                int m = upTo(1, 20);
                same("drawn(" + m + ")", x.drawn(m), y.drawn(m));
            }
            case 24 -> {
                int s = upTo(0, 1);
                same("keep(" + s + ")", x.keep(s), y.keep(s));
            }
            case 25 -> {
                int s = upTo(0, 1);
                same("again(" + s + ")", x.again(s), y.again(s));
            }
            case 26, 27, 28 -> {
                int w = upTo(0, 9);
                same("count(" + w + ")", x.count(w), y.count(w));
            }
            case 29 -> {
                int l = upTo(0, 255);
                same("write(" + l + ")", x.write(l), y.write(l));
            }
            case 30 -> same("fault()", x.fault(), y.fault());
            default -> {
                if (random.nextInt(3) == 0) {
                    same("cell()", x.cell(), y.cell());
                }
            }
        }
    }

    /** Half of what is seen is told as it will be if a user is off, so that which() has something to find. */
    private void seeOne() {
        int n = upTo(0, 9);
        int u = aUser();
        int w = upTo(0, 1);
        int v = upTo(0, 99);
        int was = upTo(0, 1);
        if (random.nextBoolean() && n >= 0 && n <= 9 && y.count(1) > u && u >= 0 && (w == 0 || w == 1)) {
            v = w == 0 ? y.ahead(n, u, 8) : y.ahead(n, u, 5) + y.ahead(n, u, 6);
        }
        String call = "see(" + n + ", " + u + ", " + w + ", " + v + ", " + was + ")";
        same(call, x.see(n, u, w, v, was), y.see(n, u, w, v, was));
        if (random.nextInt(5) == 0) {
            same("unsee()", x.unsee(), y.unsee());
        }
    }

    private void act() {
        switch (random.nextInt(8)) {
            case 0, 1, 2 -> {
                int n = random.nextInt(12) == 0 ? upTo(1, 99) : upTo(1, 4);
                same("slot(" + n + ")", x.slot(n), y.slot(n));
            }
            case 3 -> {
                int u = aUser();
                same("turn(" + u + ")", x.turn(u), y.turn(u));
            }
            case 4 -> {
                int u = aUser();
                same("drop(" + u + ")", x.drop(u), y.drop(u));
            }
            case 5 -> {
                int u = aUser();
                int w = upTo(0, 2);
                int v = upTo(0, 9);
                same("set(" + u + ", " + w + ", " + v + ")", x.set(u, w, v), y.set(u, w, v));
            }
            case 6 -> {
                int v = upTo(0, 9);
                same("patience(" + v + ")", x.patience(v), y.patience(v));
            }
            default -> same("undo()", x.undo(), y.undo());
        }
    }
}
