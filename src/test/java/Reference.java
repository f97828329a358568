import java.math.BigInteger;
import java.util.ArrayDeque;
import java.util.ArrayList;
import java.util.Deque;
import java.util.List;
import java.util.regex.Matcher;
import java.util.regex.Pattern;

/** The document told a second time, in another way than the program, to compare long runs with. */
final class Reference {
    private static final Pattern CELL =
        Pattern.compile("C[1-4][1-4][0-9](?:u[0-9][1-9][0-9][0-9]{1,6}\\.){0,5}", Pattern.DOTALL);

    static final class Person {
        String rates;
        int comes, weight, loses, queue, again, mean, wait, sent, got;
        boolean off;

        Person copy() {
            Person p = new Person();
            p.rates = rates;
            p.comes = comes;
            p.weight = weight;
            p.loses = loses;
            p.queue = queue;
            p.again = again;
            p.mean = mean;
            p.wait = wait;
            p.sent = sent;
            p.got = got;
            p.off = off;
            return p;
        }

        boolean empty() {
            return queue == 0 && again == 0;
        }
    }

    static final class World {
        int blocks = 1, shift = 1, patience = 0, clock = 0;
        List<Person> people = new ArrayList<>();

        World copy() {
            World w = new World();
            w.blocks = blocks;
            w.shift = shift;
            w.patience = patience;
            w.clock = clock;
            for (Person p : people) {
                w.people.add(p.copy());
            }
            return w;
        }

        int rate(Person p) {
            return p.rates.charAt(clock % p.rates.length()) - '0';
        }

        int gotByAll() {
            return people.stream().mapToInt(p -> p.got).sum();
        }

        /** Who had each block; -9 for nobody. */
        int[] slot(boolean failing) {
            for (Person p : people) {
                p.queue = Math.min(999, p.queue + p.comes);
            }
            int[] had = new int[blocks];
            java.util.Arrays.fill(had, -9);
            int[] gotBefore = people.stream().mapToInt(p -> p.got).toArray();
            for (int b = 0; b < blocks && !failing; b++) {
                int who = choose(had, b);
                had[b] = who;
                if (who >= 0) {
                    give(people.get(who));
                }
            }
            for (int i = 0; i < people.size(); i++) {
                Person p = people.get(i);
                int g = p.got - gotBefore[i];
                p.mean = p.mean - (p.mean >> shift) + ((16 * g) >> shift);
                final int me = i;
                boolean hadOne = java.util.Arrays.stream(had).anyMatch(h -> h == me);
                p.wait = hadOne || p.off || p.empty() ? 0 : p.wait + 1;
            }
            clock++;
            return had;
        }

        private int choose(int[] had, int b) {
            List<Integer> may = new ArrayList<>();
            for (int i = 0; i < people.size(); i++) {
                Person p = people.get(i);
                boolean hadAny = false;
                for (int c = 0; c < b; c++) {
                    hadAny |= had[c] == i;
                }
                boolean stretch = !hadAny || had[b - 1] == i;
                if (!p.off && rate(p) > 0 && (p.queue > 0 || p.again > 0) && stretch) {
                    may.add(i);
                }
            }
            List<Integer> repeat = may.stream().filter(i -> people.get(i).again > 0).toList();
            if (!repeat.isEmpty()) {
                return ofGreatestWait(repeat);
            }
            List<Integer> late = may.stream().filter(i -> people.get(i).wait >= patience).toList();
            if (patience > 0 && !late.isEmpty()) {
                return ofGreatestWait(late);
            }
            for (int i : may) {
                boolean beaten = false;
                for (int j : may) {
                    long mine = due(i, j);
                    long other = due(j, i);
                    beaten |= other > mine;
                }
                if (!beaten) {
                    return i;
                }
            }
            return -9;
        }

        private long due(int i, int j) {
            Person p = people.get(i);
            return (long) rate(p) * p.weight * (people.get(j).mean + 1);
        }

        private int ofGreatestWait(List<Integer> some) {
            int most = some.stream().mapToInt(i -> people.get(i).wait).max().orElseThrow();
            return some.stream().filter(i -> people.get(i).wait == most).findFirst().orElseThrow();
        }

        private void give(Person p) {
            int much;
            if (p.again > 0) {
                much = Math.min(p.again, rate(p));
                p.again -= much;
            } else {
                much = Math.min(p.queue, rate(p));
                p.queue -= much;
            }
            p.sent++;
            boolean lost = p.loses > 0 && p.sent % p.loses == 0;
            if (lost) {
                p.again += much;
            } else {
                p.got += much;
            }
        }

        World after(int n) {
            World w = copy();
            for (int i = 0; i < n; i++) {
                w.slot(false);
            }
            return w;
        }
    }

    private final StringBuilder text = new StringBuilder();
    private World world = new World();
    private final Deque<World> acts = new ArrayDeque<>();
    private final World[] kept = new World[2];
    private final List<int[]> seen = new ArrayList<>();
    private long seed = 0;

    private boolean known(int user) {
        return 0 <= user && user < world.people.size();
    }

    private void act() {
        if (acts.size() == 14) {
            acts.removeFirst();
        }
        acts.addLast(world.copy());
    }

    int write(int letter) {
        if (letter < 0 || letter > 255) {
            return -2;
        }
        if (text.length() == 80) {
            return -4;
        }
        text.append((char) letter);
        return text.length();
    }

    int wipe() {
        int was = text.length();
        text.setLength(0);
        return was;
    }

    int fault() {
        for (int i = 1; i <= text.length(); i++) {
            Matcher m = CELL.matcher(text.substring(0, i));
            if (!m.matches() && !m.hitEnd()) {
                return i - 1;
            }
        }
        return CELL.matcher(text).matches() ? -9 : text.length();
    }

    int cell() {
        if (fault() != -9) {
            return -3;
        }
        World w = new World();
        w.blocks = text.charAt(1) - '0';
        w.shift = text.charAt(2) - '0';
        w.patience = text.charAt(3) - '0';
        for (String part : text.substring(4).split("\\.")) {
            if (!part.isEmpty()) {
                Person p = new Person();
                p.comes = part.charAt(1) - '0';
                p.weight = part.charAt(2) - '0';
                p.loses = part.charAt(3) - '0';
                p.rates = part.substring(4);
                w.people.add(p);
            }
        }
        world = w;
        acts.clear();
        kept[0] = null;
        kept[1] = null;
        return w.people.size();
    }

    private static int of(World w, int user, int what) {
        Person p = w.people.get(user);
        int[] all = {w.rate(p), p.comes, p.weight, p.loses, p.off ? 1 : 0,
            p.queue, p.again, p.mean, p.wait, p.sent, p.got};
        return all[what];
    }

    int user(int user, int what) {
        if (!known(user)) {
            return -1;
        }
        return what < 0 || what > 10 ? -2 : of(world, user, what);
    }

    int slot(int n) {
        if (n < 1 || n > 99) {
            return -2;
        }
        act();
        int was = world.gotByAll();
        world = world.after(n);
        return world.gotByAll() - was;
    }

    int turn(int user) {
        if (!known(user)) {
            return -1;
        }
        act();
        Person p = world.people.get(user);
        p.off ^= true;
        return p.off ? 1 : 0;
    }

    int drop(int user) {
        if (!known(user)) {
            return -1;
        }
        act();
        Person p = world.people.get(user);
        int was = p.queue + p.again;
        p.queue = 0;
        p.again = 0;
        return was;
    }

    int set(int user, int what, int v) {
        if (!known(user)) {
            return -1;
        }
        if (what < 0 || what > 2 || v < 0 || v > 9 || what == 1 && v == 0) {
            return -2;
        }
        act();
        int was = of(world, user, what + 1);
        Person p = world.people.get(user);
        switch (what) {
            case 0 -> p.comes = v;
            case 1 -> p.weight = v;
            default -> p.loses = v;
        }
        return was;
    }

    int patience(int v) {
        if (v < 0 || v > 9) {
            return -2;
        }
        act();
        int was = world.patience;
        world.patience = v;
        return was;
    }

    int undo() {
        if (acts.isEmpty()) {
            return -3;
        }
        world = acts.removeLast();
        return acts.size();
    }

    int ahead(int n, int user, int what) {
        if (!known(user)) {
            return -1;
        }
        return n < 0 || n > 99 || what < 5 || what > 10 ? -2 : of(world.after(n), user, what);
    }

    int who(int block) {
        return block < 0 || block >= world.blocks ? -2 : world.copy().slot(false)[block];
    }

    int longest(int user, int n) {
        if (!known(user)) {
            return -1;
        }
        if (n < 1 || n > 99) {
            return -2;
        }
        int most = 0;
        World w = world.copy();
        for (int i = 1; i <= n; i++) {
            w.slot(false);
            most = Math.max(most, w.people.get(user).wait);
        }
        return most;
    }

    int empty(int user) {
        if (!known(user)) {
            return -1;
        }
        for (int n = 0; n <= 60; n++) {
            if (world.after(n).people.get(user).empty()) {
                return n;
            }
        }
        return -9;
    }

    int best(int user) {
        if (!known(user)) {
            return -1;
        }
        int best = 0;
        int most = Integer.MIN_VALUE;
        for (int weight = 9; weight >= 1; weight--) {
            World w = world.copy();
            w.people.get(user).weight = weight;
            w = w.after(30);
            int least = Integer.MAX_VALUE;
            for (int i = 0; i < w.people.size(); i++) {
                least = Math.min(least, w.people.get(i).got - world.people.get(i).got);
            }
            if (least >= most) {
                most = least;
                best = weight;
            }
        }
        return best;
    }

    int judge(int n, long row) {
        if (n < 1 || n > 4 || row < 0 || Long.toString(row).length() > 3 * n) {
            return -2;
        }
        String figures = String.format("%0" + 3 * n + "d", row);
        World w = world.copy();
        for (int i = 0; i < n; i++) {
            int a = figures.charAt(3 * i) - '0';
            int b = figures.charAt(3 * i + 1) - '0';
            int c = figures.charAt(3 * i + 2) - '0';
            boolean so;
            if (a == 1) {
                so = b + c > 0;
                w = w.after(10 * b + c);
            } else if (a == 2 || a == 3) {
                so = b == 0 && known(c);
                if (so && a == 2) {
                    w.people.get(c).off ^= true;
                } else if (so) {
                    w.people.get(c).queue = 0;
                    w.people.get(c).again = 0;
                }
            } else if (a == 4) {
                so = known(b) && c != 0;
                if (so) {
                    w.people.get(b).weight = c;
                }
            } else if (a == 5) {
                so = known(b) && w.people.get(b).wait == c;
            } else if (a == 6) {
                so = known(b) && c < w.blocks && w.copy().slot(false)[c] == b;
            } else if (a == 7) {
                so = known(b) && (c == 0 && w.people.get(b).empty() || c == 1 && !w.people.get(b).empty());
            } else {
                so = false;
            }
            if (!so) {
                return i;
            }
        }
        return -9;
    }

    int see(int n, int user, int what, int v, int was) {
        if (!known(user)) {
            return -1;
        }
        if (n < 0 || n > 9 || what < 0 || what > 1 || v < 0 || v > 99 || was < 0 || was > 1) {
            return -2;
        }
        if (seen.size() == 6) {
            return -4;
        }
        seen.add(new int[] {n, user, what, v, was});
        return seen.size();
    }

    int unsee() {
        int was = seen.size();
        seen.clear();
        return was;
    }

    int which() {
        int bits = 0;
        for (int i = 0; i < world.people.size(); i++) {
            if (world.people.get(i).off) {
                continue;
            }
            World w = world.copy();
            w.people.get(i).off = true;
            boolean all = true;
            for (int[] s : seen) {
                if (s[1] < world.people.size()) {
                    Person p = w.after(s[0]).people.get(s[1]);
                    boolean so = (s[2] == 0 ? p.wait : p.queue + p.again) == s[3];
                    all &= so == (s[4] == 1);
                }
            }
            bits += all ? 1 << i : 0;
        }
        return bits;
    }

    private static int told(long above, long below, boolean upper) {
        BigInteger a = BigInteger.valueOf(above);
        BigInteger b = BigInteger.valueOf(below);
        BigInteger g = a.gcd(b);
        return (upper ? a : b).divide(g).intValueExact();
    }

    int share(int user, boolean upper) {
        if (!known(user)) {
            return -1;
        }
        if (world.people.get(user).off) {
            return -3;
        }
        Integer[] gains = new Integer[32];
        List<Integer> on = new ArrayList<>();
        for (int i = 0; i < world.people.size(); i++) {
            if (!world.people.get(i).off) {
                on.add(i);
            }
        }
        long[] sum = new long[2];
        orders(on, 0, user, gains, sum);
        return told(sum[0], sum[1], upper);
    }

    /** Each order one by one; sum is what came more by the user, and how many orders there were. */
    private void orders(List<Integer> left, int come, int user, Integer[] gains, long[] sum) {
        if (left.isEmpty()) {
            sum[1]++;
            return;
        }
        for (Integer next : left) {
            List<Integer> rest = new ArrayList<>(left);
            rest.remove(next);
            long before = sum[1];
            orders(rest, come | 1 << next, user, gains, sum);
            if (next == user) {
                sum[0] += (sum[1] - before) * (gain(come | 1 << next, gains) - gain(come, gains));
            }
        }
    }

    private int gain(int on, Integer[] gains) {
        if (gains[on] == null) {
            World w = world.copy();
            for (int i = 0; i < w.people.size(); i++) {
                w.people.get(i).off = (on & 1 << i) == 0;
            }
            gains[on] = w.after(20).gotByAll();
        }
        return gains[on];
    }

    int fails(int user, int n, int x, boolean upper) {
        if (!known(user)) {
            return -1;
        }
        if (n < 1 || n > 6 || x < 0 || x > 10) {
            return -2;
        }
        return told(tenths(world, user, n, x), Math.round(Math.pow(10, n)), upper);
    }

    private static long tenths(World w, int user, int n, int x) {
        if (n == 0) {
            return w.people.get(user).empty() ? 1 : 0;
        }
        World bad = w.copy();
        bad.slot(true);
        World good = w.copy();
        good.slot(false);
        return x * tenths(bad, user, n - 1, x) + (10 - x) * tenths(good, user, n - 1, x);
    }

    long seed(long v) {
        long was = seed;
        seed = v;
        return was;
    }

    int drawn(int m) {
        if (m < 1 || m > 20) {
            return -2;
        }
        World w = world.copy();
        for (int i = 0; i < m; i++) {
            seed = seed * 6364136223846793005L + 1442695040888963407L;
            int v = (int) (seed >>> 33);
            if (!w.people.isEmpty()) {
                Person p = w.people.get((v / 16) % w.people.size());
                p.queue = Math.min(999, p.queue + v % 10);
            }
            w.slot(false);
        }
        return w.gotByAll() - world.gotByAll();
    }

    int keep(int slot) {
        if (slot < 0 || slot > 1) {
            return -1;
        }
        kept[slot] = world.copy();
        return world.clock;
    }

    int again(int slot) {
        if (slot < 0 || slot > 1) {
            return -1;
        }
        if (kept[slot] == null) {
            return -3;
        }
        world = kept[slot].copy();
        acts.clear();
        return world.clock;
    }

    int count(int what) {
        int off = 0;
        int waiting = 0;
        for (int i = 0; i < world.people.size(); i++) {
            off += world.people.get(i).off ? 1 << i : 0;
            waiting += world.people.get(i).empty() ? 0 : 1 << i;
        }
        int[] all = {text.length(), world.people.size(), world.blocks, world.shift, world.patience,
            world.clock, off, waiting, acts.size(), seen.size()};
        return what < 0 || what > 9 ? -2 : all[what];
    }
}
