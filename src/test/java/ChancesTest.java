import java.math.BigInteger;
import java.util.ArrayList;
import java.util.List;

/** Promises 22 to 25: share, fails, seed, drawn. */
public final class ChancesTest {
    private static final Check CHECK = new Check("ChancesTest");
    private static final int UNKNOWN = FairBlocks.UNKNOWN, OUTSIDE = FairBlocks.OUTSIDE, STATE = FairBlocks.STATE;

    public static void main(String[] args) {
        share();
        shareOfTwo();
        shareByOrders();
        fails();
        failsRefused();
        failedSlotsGoOn();
        seed();
        drawn();
        drawnFull();
        CHECK.end();
    }

    private static void shareIs(FairBlocks x, int user, int above, int below) {
        CHECK.due("share(" + user + ", true)", x.share(user, true), above);
        CHECK.due("share(" + user + ", false)", x.share(user, false), below);
    }

    private static void share() {
        shareIs(Check.cell("C110u3105."), 0, 60, 1);
        FairBlocks two = Check.cell("C110u5105.u5105.");
        shareIs(two, 0, 50, 1);
        shareIs(two, 1, 50, 1);
        FairBlocks three = Check.cell("C110u5105.u5105.u5105.");
        shareIs(three, 2, 100, 3);
        shareIs(three, 3, UNKNOWN, UNKNOWN);
        shareIs(three, -1, UNKNOWN, UNKNOWN);
        three.turn(1);
        shareIs(three, 1, STATE, STATE);
        shareIs(three, 0, 50, 1);
        three.turn(0);
        shareIs(three, 2, 100, 1);
        shareIs(Check.cell("C110u5105.u9100."), 1, 0, 1);
        // Whoever loses all stays ahead for ever: all that user 1 had is lost as soon as user 0 is there.
        FairBlocks taker = Check.cell("C110u9119.u5105.");
        shareIs(taker, 0, -50, 1);
        shareIs(taker, 1, 50, 1);
        // What was had ahead is not counted.
        FairBlocks later = Check.cell("C110u3105.");
        later.slot(50);
        shareIs(later, 0, 60, 1);
    }

    /** With two users the mean is of two orders, and both can be tried by turning. */
    private static void shareOfTwo() {
        String[] cells = {"C212u9125.u39041.", "C321u3415312.u210207.", "C140u2109.u3301.", "C111u9909.u9101."};
        for (String cell : cells) {
            FairBlocks x = Check.cell(cell);
            x.slot(3);
            int both = x.ahead(20, 0, 10) + x.ahead(20, 1, 10);
            x.turn(1);
            int only0 = x.ahead(20, 0, 10) + x.ahead(20, 1, 10);
            x.undo();
            x.turn(0);
            int only1 = x.ahead(20, 0, 10) + x.ahead(20, 1, 10);
            x.undo();
            int none = x.user(0, 10) + x.user(1, 10);
            int twice = only0 - none + both - only1;
            boolean even = twice % 2 == 0;
            shareIs(x, 0, even ? twice / 2 : twice, even ? 1 : 2);
        }
    }

    private static int gotBehind20(FairBlocks x) {
        int all = 0;
        for (int i = 0; i < x.count(1); i++) {
            all += x.ahead(20, i, 10) - x.user(i, 10);
        }
        return all;
    }

    private static FairBlocks threeSlotsOn(String cell, boolean oneIsOff) {
        FairBlocks x = Check.cell(cell);
        x.slot(3);
        if (oneIsOff) {
            x.turn(1);
        }
        return x;
    }

    /** What comes more by the user in one order, of those that are there now. */
    private static int moreByOrder(FairBlocks x, List<Integer> order, int user) {
        for (int one : order) {
            x.turn(one);
        }
        int more = 0;
        for (int one : order) {
            int before = one == user ? gotBehind20(x) : 0;
            x.turn(one);
            if (one == user) {
                more = gotBehind20(x) - before;
            }
        }
        return more;
    }

    private static void allOrders(List<Integer> come, List<Integer> left, List<List<Integer>> all) {
        if (left.isEmpty()) {
            all.add(come);
        }
        for (int one : left) {
            List<Integer> longer = new ArrayList<>(come);
            longer.add(one);
            List<Integer> rest = new ArrayList<>(left);
            rest.remove(Integer.valueOf(one));
            allOrders(longer, rest, all);
        }
    }

    /** Each order tried one by one by turning users on. */
    private static void shareByOrders() {
        String[] cells = {"C212u9125.u39041.u5109.", "C321u3415312.u210207.u05090.u7308.",
            "C430u9119.u9939.u1101.u2102.u4505.", "C111u9909.u9101.u4217.u35356.u66208."};
        for (int k = 0; k < 2 * cells.length; k++) {
            String cell = cells[k / 2];
            boolean oneIsOff = k % 2 == 1;
            FairBlocks x = threeSlotsOn(cell, oneIsOff);
            List<Integer> on = new ArrayList<>();
            for (int i = 0; i < x.count(1); i++) {
                if (x.user(i, 4) == 0) {
                    on.add(i);
                }
            }
            List<List<Integer>> all = new ArrayList<>();
            allOrders(new ArrayList<>(), on, all);
            for (int user : on) {
                long sum = 0;
                for (List<Integer> order : all) {
                    sum += moreByOrder(threeSlotsOn(cell, oneIsOff), order, user);
                }
                int common = BigInteger.valueOf(sum).gcd(BigInteger.valueOf(all.size())).intValueExact();
                shareIs(x, user, (int) sum / common, all.size() / common);
            }
        }
    }

    private static void failsIs(FairBlocks x, int n, int tenths, int above, int below) {
        CHECK.due("fails(0, " + n + ", " + tenths + ", true)", x.fails(0, n, tenths, true), above);
        CHECK.due("fails(0, " + n + ", " + tenths + ", false)", x.fails(0, n, tenths, false), below);
    }

    private static void fails() {
        FairBlocks x = Check.cell("C110u5105.");
        failsIs(x, 1, 3, 7, 10);
        failsIs(x, 2, 3, 49, 100);
        failsIs(x, 6, 3, 117649, 1000000);
        failsIs(x, 6, 0, 1, 1);
        failsIs(x, 6, 10, 0, 1);
        failsIs(x, 1, 5, 1, 2);
        failsIs(x, 6, 5, 1, 64);
        FairBlocks y = Check.cell("C110u3109.");
        failsIs(y, 2, 3, 7, 10);
        failsIs(y, 3, 5, 1, 2);
        failsIs(y, 4, 5, 7, 16);
        // Nothing comes and nothing is there: whatever fails, it is empty.
        failsIs(Check.cell("C110u0109."), 6, 10, 1, 1);
        // Lost as soon as it is sent: never empty, but while it fails there is the queue.
        failsIs(Check.cell("C110u1111."), 1, 5, 0, 1);
    }

    private static void failsRefused() {
        FairBlocks x = Check.cell("C110u5105.");
        failsIs(x, 0, 3, OUTSIDE, OUTSIDE);
        failsIs(x, 7, 3, OUTSIDE, OUTSIDE);
        failsIs(x, 1, -1, OUTSIDE, OUTSIDE);
        failsIs(x, 1, 11, OUTSIDE, OUTSIDE);
        CHECK.due("no such user", x.fails(1, 0, 11, true), UNKNOWN);
        CHECK.due("no such user", x.fails(-1, 1, 1, false), UNKNOWN);
    }

    private static void failedSlotsGoOn() {
        // The clock goes on: rate 0 in slot 0, 9 in slot 1. Empty only if slot 1 does not fail.
        failsIs(Check.cell("C110u41009."), 2, 4, 3, 5);
        // Waits go on: behind a slot that failed or not user 0 waits, and is next by patience, though 73 to 81.
        FairBlocks x = Check.cell("C111u1101.u9909.");
        x.turn(0);
        x.slot(1);
        x.turn(0);
        x.set(0, 0, 0);
        CHECK.due("73 to 81", x.who(0), 1);
        failsIs(x, 2, 4, 3, 5);
        // Means go on: 10 to 9 now, but behind a slot that failed 6 to 9.
        FairBlocks y = Check.cell("C110u1101.u9109.");
        y.turn(0);
        y.slot(1);
        y.turn(1);
        y.set(0, 0, 0);
        y.slot(3);
        y.turn(0);
        y.turn(1);
        CHECK.due("mean of user 1", y.user(1, 7), 9);
        CHECK.due("10 to 9", y.who(0), 0);
        failsIs(y, 2, 4, 3, 5);
    }

    private static void seed() {
        FairBlocks x = new FairBlocks();
        CHECK.due("seed(5)", x.seed(5), 0);
        CHECK.due("seed(least)", x.seed(Long.MIN_VALUE), 5);
        CHECK.due("seed(-1)", x.seed(-1), Long.MIN_VALUE);
        CHECK.due("seed(0)", x.seed(0), -1);
    }

    /** What 64 bits leave of the next seed, by numbers without an end. */
    private static BigInteger next(BigInteger seed) {
        return seed.multiply(new BigInteger("6364136223846793005")).add(new BigInteger("1442695040888963407"))
            .mod(BigInteger.ONE.shiftLeft(64));
    }

    private static void drawn() {
        FairBlocks x = Check.cell("C110u0109.");
        FairBlocks y = Check.cell("C210u0109.u0100.");
        FairBlocks none = new FairBlocks();
        BigInteger seed = BigInteger.ZERO;
        for (int m = 1; m <= 20; m++) {
            int all = 0;
            int half = 0;
            for (int i = 0; i < m; i++) {
                seed = next(seed);
                int v = seed.shiftRight(33).intValueExact();
                all += v % 10;
                half += v / 16 % 2 == 0 ? v % 10 : 0;
            }
            CHECK.due("alone: drawn(" + m + ")", x.drawn(m), all);
            CHECK.due("of two: drawn(" + m + ")", y.drawn(m), half);
            CHECK.due("no users: drawn(" + m + ")", none.drawn(m), 0);
        }
        CHECK.due("the seed", x.seed(0), seed.longValue());
        CHECK.due("the seed without users", none.seed(0), seed.longValue());
        CHECK.due("nothing else changes", x.user(0, 9) + x.count(5) + x.count(7) + x.count(8), 0);
        CHECK.due("drawn(0)", x.drawn(0), OUTSIDE);
        CHECK.due("drawn(21)", x.drawn(21), OUTSIDE);
        CHECK.due("refused: the seed", x.seed(0), 0);
    }

    private static void drawnFull() {
        // 999 in its row from the start: what is drawn for it adds nothing, so nine a slot leave it in time.
        FairBlocks x = Check.cell("C110u9109.");
        x.turn(0);
        x.slot(99);
        x.slot(99);
        x.turn(0);
        CHECK.due("full", x.user(0, 5), 999);
        CHECK.due("nine a slot", x.drawn(20), 180);
        x.turn(0);
        CHECK.due("off: it has none", x.drawn(20), 0);
    }
}
