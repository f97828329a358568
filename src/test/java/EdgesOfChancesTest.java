import java.math.BigInteger;

/** Boundary cases that the terms name of SEEN, SHARE, FAILS, DRAWN and of places to keep in. */
public final class EdgesOfChancesTest {
    private static final Check CHECK = new Check("EdgesOfChancesTest");
    private static final int UNKNOWN = FairBlocks.UNKNOWN, OUTSIDE = FairBlocks.OUTSIDE, STATE = FairBlocks.STATE;
    private static final int FULL = FairBlocks.FULL;
    private static final int QUEUE = 5, WAIT = 8;

    public static void main(String[] args) throws Exception {
        Edges.run(EdgesOfChancesTest.class, CHECK);
        CHECK.end();
    }

    /** What which() answers if only this is seen. */
    private static void whichBy(FairBlocks x, int n, int user, int what, int v, int was, int want) {
        x.unsee();
        x.see(n, user, what, v, was);
        CHECK.due("which() by see(" + n + ", " + user + ", " + what + ", " + v + ", " + was + ")", x.which(), want);
    }

    private static void fraction(String told, int above, int below, int wantAbove, int wantBelow) {
        CHECK.due(told + ", above", above, wantAbove);
        CHECK.due(told + ", below", below, wantBelow);
    }

    private static void shareIs(String when, FairBlocks x, int user, int above, int below) {
        fraction(when + ": share of user " + user, x.share(user, true), x.share(user, false), above, below);
    }

    private static void failsIs(String when, FairBlocks x, int n, int tenths, int above, int below) {
        fraction(when + ": fails(0, " + n + ", " + tenths + ")",
            x.fails(0, n, tenths, true), x.fails(0, n, tenths, false), above, below);
    }

    // ---- seen

    @Says(at = "Terms", value = "behind n SLOTS (0 to 9) a USER has WAIT v (what = 0)")
    static void aWaitSeen() {
        FairBlocks x = Check.cell("C110u1100.u1100.");
        x.slot(4);
        // Behind no slots all wait 4, whoever is off: turned leaves it.
        whichBy(x, 0, 0, 0, 4, 1, 3);
        whichBy(x, 0, 0, 0, 4, 0, 0);
        whichBy(x, 0, 0, 0, 5, 1, 0);
        whichBy(x, 1, 0, 0, 5, 1, 2);
        whichBy(x, 1, 0, 0, 0, 1, 1);
        whichBy(x, 9, 1, 0, 13, 1, 1);
        whichBy(x, 9, 1, 0, 12, 1, 0);
        whichBy(x, 9, 1, 0, 14, 1, 0);
        whichBy(x, 9, 1, 0, 0, 1, 2);
    }

    @Says(at = "Terms", value = "its QUEUE and AGAIN together are v (1; v 0 to 99 each)")
    static void aQueueSeen() {
        FairBlocks x = Check.cell("C110u9109.u9109.");
        x.turn(0);
        x.slot(2);
        x.turn(0);
        CHECK.due("18 are there", x.user(0, QUEUE), 18);
        // Off it has 18 and 81; alone it sends 9 a slot and keeps 18.
        whichBy(x, 9, 0, 1, 99, 1, 1);
        whichBy(x, 9, 0, 1, 98, 1, 0);
        whichBy(x, 9, 0, 1, 18, 1, 2);
        whichBy(x, 0, 0, 1, 18, 1, 3);
        whichBy(x, 0, 1, 1, 0, 1, 3);
        whichBy(x, 1, 0, 1, 99, 0, 3);
        // 9 lost and as much in the queue: 9 a slot come, and all together is told.
        FairBlocks y = Check.cell("C110u9119.u9109.");
        y.slot(1);
        whichBy(y, 0, 0, 1, 9, 1, 3);
        whichBy(y, 1, 0, 1, 18, 1, 3);
        whichBy(y, 1, 0, 1, 9, 0, 3);
    }

    @Says(at = "Terms", value = "its QUEUE and AGAIN together are v (1; v 0 to 99 each)")
    static void moreThanCanBeTold() {
        // A wait and a queue of 100 and more are none that can be told, not even by what is left of them.
        FairBlocks x = Check.cell("C110u1100.u1100.");
        x.slot(99);
        whichBy(x, 0, 0, 0, 99, 1, 3);
        whichBy(x, 0, 0, 1, 99, 1, 3);
        x.slot(1);
        whichBy(x, 0, 0, 0, 99, 1, 0);
        whichBy(x, 0, 0, 1, 99, 1, 0);
        whichBy(x, 0, 0, 0, 0, 1, 0);
        whichBy(x, 0, 0, 1, 0, 1, 0);
        x.unsee();
        CHECK.due("100", x.see(0, 0, 0, 100, 1), OUTSIDE);
    }

    @Says(at = "Terms", value = "that is so (1), or not (0)")
    static void soOrNot() {
        FairBlocks x = Check.cell("C110u3105.u3105.u3105.");
        whichBy(x, 1, 0, 1, 3, 1, 1);
        whichBy(x, 1, 0, 1, 3, 0, 6);
        x.unsee();
        x.see(1, 0, 1, 3, 1);
        x.see(1, 0, 1, 3, 0);
        CHECK.due("so and not so", x.which(), 0);
    }

    @Says(at = "Terms", value = "being OFF from now on (as it stands when that is asked, not when it was told)")
    static void asItStandsWhenAsked() {
        FairBlocks x = Check.cell("C110u1100.u1100.");
        x.see(2, 1, 0, 5, 1);
        CHECK.due("behind 2 slots it waits 2", x.which(), 0);
        x.slot(3);
        CHECK.due("behind 2 more it waits 5", x.which(), 1);
        x.slot(1);
        CHECK.due("behind 2 more it waits 6", x.which(), 0);
        x.undo();
        x.turn(0);
        CHECK.due("user 0 is off, user 1 would not wait", x.which(), 0);
    }

    @Says(at = "Terms", value = "never more than 6, none at first")
    static void sixAreSeen() {
        FairBlocks x = Check.cell("C110u3105.u3105.");
        CHECK.due("none at first", x.count(9), 0);
        for (int i = 1; i <= 6; i++) {
            CHECK.due("see " + i, x.see(i, 0, 1, 3 * i, 1), i);
        }
        CHECK.due("a seventh", x.see(7, 0, 1, 20, 1), FULL);
        CHECK.due("count(9)", x.count(9), 6);
        CHECK.due("all six are looked at, the seventh is not", x.which(), 1);
        for (int wrong = 0; wrong < 6; wrong++) {
            FairBlocks y = Check.cell("C110u3105.u3105.");
            for (int i = 0; i < 6; i++) {
                y.see(1, 0, 1, 3, i == wrong ? 0 : 1);
            }
            CHECK.due("one of six is not so: " + wrong, y.which(), 0);
        }
    }

    @Says(at = "Terms", value = "(another CELL leaves them; of USERS that there are not any more nothing is looked at)")
    static void usersThatThereAreNotAnyMore() {
        FairBlocks x = Check.cell("C110" + "u3105.".repeat(5));
        x.see(1, 4, 1, 99, 1);
        x.see(1, 0, 1, 3, 1);
        CHECK.due("not so of user 4", x.which(), 0);
        x.wipe();
        Check.write(x, "C110" + "u3105.".repeat(4)).cell();
        CHECK.due("both are left", x.count(9), 2);
        CHECK.due("of user 4 nothing is looked at", x.which(), 1);
        x.wipe();
        Check.write(x, "C110").cell();
        CHECK.due("both are left", x.count(9), 2);
        CHECK.due("no users", x.which(), 0);
        x.wipe();
        Check.write(x, "C110" + "u3105.".repeat(5)).cell();
        CHECK.due("user 4 is there again", x.which(), 0);
    }

    @Says(at = "Terms", value = "WHICH: USERS that are not OFF by which all that is SEEN is so, as bits.")
    static void whichAsBits() {
        CHECK.due("no users", new FairBlocks().which(), 0);
        FairBlocks x = Check.cell("C110" + "u3105.".repeat(5));
        CHECK.due("five users", x.which(), 31);
        int left = 31;
        for (int user : new int[] {4, 0, 2, 1, 3}) {
            x.turn(user);
            left -= 1 << user;
            CHECK.due("those that are not off", x.which(), left);
        }
        x.turn(4);
        CHECK.due("only the last one", x.which(), 16);
    }

    // ---- share

    @Says(at = "Terms", value = "SHARE of a USER that is not OFF: if those that are not come one by one (others are OFF), "
        + "in each order as likely")
    static void shareOfOneToFive() {
        int[][] shares = {{100, 1}, {50, 1}, {100, 3}, {25, 1}, {20, 1}};
        for (int many = 1; many <= 5; many++) {
            FairBlocks x = Check.cell("C110" + "u5105.".repeat(many));
            for (int user = 0; user < many; user++) {
                shareIs(many + " users", x, user, shares[many - 1][0], shares[many - 1][1]);
            }
        }
    }

    @Says(at = "Terms", value = "by how much more all USERS together GOT behind the next 20 SLOTS in the mean "
        + "when it has come: a FRACTION.")
    static void shareInTwentySlots() {
        FairBlocks x = Check.cell("C110u1101.");
        shareIs("one a slot", x, 0, 20, 1);
        x.slot(99);
        shareIs("later, too", x, 0, 20, 1);
        shareIs("nothing", Check.cell("C110u9100."), 0, 0, 1);
        // Rate 9 only in slot 18, then only in slot 19 of the next 20.
        FairBlocks y = Check.cell("C110u910000009.");
        y.slot(5);
        y.drop(0);
        shareIs("slots 0, 6, 12 and 18", y, 0, 36, 1);
        FairBlocks z = Check.cell("C110u910000009.");
        z.slot(4);
        z.drop(0);
        shareIs("slots 1, 7, 13 and 19", z, 0, 36, 1);
        FairBlocks w = Check.cell("C110u910000009.");
        w.slot(3);
        w.drop(0);
        shareIs("slots 2, 8 and 14, not 20", w, 0, 27, 1);
    }

    @Says(at = "Terms", value = "SHARE: those that are OFF now stay so.")
    static void thoseThatAreOffStaySo() {
        FairBlocks x = Check.cell("C110u5105.u5105.u5105.");
        x.turn(1);
        shareIs("one is off", x, 0, 50, 1);
        shareIs("one is off", x, 2, 50, 1);
        CHECK.due("of the one itself", x.share(1, true), STATE);
        x.turn(0);
        shareIs("two are off", x, 2, 100, 1);
        x.turn(2);
        CHECK.due("all are off", x.share(2, false), STATE);
        CHECK.due("and are so still", x.count(6), 7);
        // Four blocks are enough for all: each has what comes for it, and one that is off adds nothing.
        FairBlocks y = Check.cell("C410u1109.u2109.u3109.u4109.");
        y.turn(1);
        shareIs("blocks for all", y, 0, 20, 1);
        shareIs("blocks for all", y, 2, 60, 1);
        y.turn(3);
        shareIs("blocks for all", y, 0, 20, 1);
    }

    // ---- fails

    @Says(at = "Terms", value = "FAILS: in each of the next n SLOTS (1 to 6) by x tenths (0 to 10), by itself")
    static void failsFromNoneToAll() {
        // It is empty only if none fails: by (10 - x)^n of 10^n.
        FairBlocks x = Check.cell("C110u5105.");
        for (int n = 1; n <= 6; n++) {
            for (int tenths = 0; tenths <= 10; tenths++) {
                BigInteger above = BigInteger.valueOf(10 - tenths).pow(n);
                BigInteger below = BigInteger.TEN.pow(n);
                BigInteger common = above.gcd(below);
                failsIs("none may fail", x, n, tenths, above.divide(common).intValueExact(),
                    below.divide(common).intValueExact());
            }
        }
        failsIs("n is too small", x, 0, 5, OUTSIDE, OUTSIDE);
        failsIs("n is too large", x, 7, 5, OUTSIDE, OUTSIDE);
        failsIs("x is too small", x, 1, -1, OUTSIDE, OUTSIDE);
        failsIs("x is too large", x, 1, 11, OUTSIDE, OUTSIDE);
    }

    @Says(at = "Terms", value = "nobody MAY have a BLOCK (all else is as told): that a USER has no QUEUE and no AGAIN "
        + "behind them: a FRACTION.")
    static void nobodyMayHaveABlock() {
        FairBlocks nothing = Check.cell("C410u0109.");
        for (int tenths = 0; tenths <= 10; tenths++) {
            failsIs("nothing is there", nothing, 1, tenths, 1, 1);
            failsIs("nothing is there", nothing, 6, tenths, 1, 1);
        }
        failsIs("all four blocks fail", Check.cell("C410u9109."), 1, 10, 0, 1);
        failsIs("AGAIN is left", Check.cell("C110u9119."), 1, 0, 0, 1);
        FairBlocks again = Check.cell("C110u1111.");
        again.slot(1);
        again.set(0, 0, 0);
        again.set(0, 2, 0);
        failsIs("AGAIN can not go, either", again, 1, 3, 7, 10);
        FairBlocks off = Check.cell("C110u9109.");
        off.turn(0);
        failsIs("it is off", off, 6, 0, 0, 1);
        // SENT is not more in a slot that fails: the second that is sent is lost, whichever slot it is.
        FairBlocks sent = Check.cell("C110u1121.");
        sent.slot(1);
        failsIs("only lost or failed", sent, 1, 5, 0, 1);
    }

    @Says(at = "Terms", value = "In a SLOT that FAILS COMING, MEANS (g is 0), WAITS go on.")
    static void comingGoesOn() {
        // 3 come and 9 can go: the last of the slots takes all that came.
        FairBlocks x = Check.cell("C110u3109.");
        failsIs("two slots", x, 2, 3, 7, 10);
        failsIs("three slots", x, 3, 5, 1, 2);
        // 12 of four slots are more than 9: not if the last alone is had, 1 of 16.
        failsIs("four slots", x, 4, 5, 7, 16);
        // The rates go on, too: 0 in slot 0, 9 in slot 1.
        failsIs("rates", Check.cell("C110u41009."), 2, 4, 3, 5);
    }

    @Says(at = "Terms", value = "In a SLOT that FAILS COMING, MEANS (g is 0), WAITS go on.")
    static void waitsGoOn() {
        // User 0 has one, of the least weight; behind slot 0 it waited 1, failed or not, and is next by patience.
        FairBlocks x = Check.cell("C111u1101.u9909.");
        x.turn(0);
        x.slot(1);
        x.turn(0);
        x.set(0, 0, 0);
        CHECK.due("73 to 81", x.who(0), 1);
        CHECK.due("it did not wait", x.user(0, WAIT), 0);
        failsIs("slot 1 may not fail", x, 2, 4, 3, 5);
    }

    @Says(at = "Terms", value = "In a SLOT that FAILS COMING, MEANS (g is 0), WAITS go on.")
    static void meansGoOn() {
        // Mean 9 of user 1: 10 to 9 now, but behind a slot that failed it is 5, and 6 to 9.
        FairBlocks y = Check.cell("C110u1101.u9109.");
        y.turn(0);
        y.slot(1);
        y.turn(1);
        y.set(0, 0, 0);
        y.slot(3);
        y.turn(0);
        y.turn(1);
        CHECK.due("mean of user 1", y.user(1, 7), 9);
        CHECK.due("10 to 9", y.who(0), 0);
        failsIs("slot 0 may not fail", y, 2, 4, 3, 5);
    }

    // ---- drawn

    /** v of the seed that comes next, by numbers without an end. */
    private static int drawnBy(BigInteger seed) {
        return seed.shiftRight(33).intValueExact();
    }

    private static BigInteger nextSeed(BigInteger seed) {
        return seed.multiply(new BigInteger("6364136223846793005")).add(new BigInteger("1442695040888963407"))
            .mod(BigInteger.ONE.shiftLeft(64));
    }

    @Says(at = "Terms", value = "(THE SEED, a long; 0 at first)")
    static void theSeedAtFirst() {
        CHECK.due("at first", new FairBlocks().seed(1), 0);
        FairBlocks x = Check.cell("C110u0109.");
        // 1442695040888963407 >>> 33 is 167951807: seven more.
        CHECK.due("drawn by 0", x.drawn(1), 7);
        CHECK.due("the next", x.seed(0), 1442695040888963407L);
    }

    @Says(at = "Terms", value = "x * 6364136223846793005L + 1442695040888963407L (64 bits, wrapping)")
    static void theSeedWraps() {
        long[] seeds = {0, 1, -1, 2, Long.MAX_VALUE, Long.MIN_VALUE, 1L << 62, 4711, -4711};
        for (long seed : seeds) {
            FairBlocks x = Check.cell("C110u0109.");
            x.seed(seed);
            x.drawn(1);
            BigInteger next = nextSeed(BigInteger.valueOf(seed).mod(BigInteger.ONE.shiftLeft(64)));
            CHECK.due("behind " + seed, x.seed(0), next.longValue());
        }
    }

    @Says(at = "Terms", value = "v is (int) (x >>> 33)")
    static void vIsNeverLessThanNothing() {
        int high = 0;
        for (int i = 0; i < 40; i++) {
            BigInteger next = nextSeed(BigInteger.valueOf(i));
            int v = drawnBy(next);
            high += next.testBit(63) ? 1 : 0;
            FairBlocks x = Check.cell("C110u0109.");
            x.seed(i);
            CHECK.due("drawn by " + i, x.drawn(1), v % 10);
        }
        CHECK.holds("some with the highest bit", high > 5 && high < 35);
    }

    @Says(at = "Terms", value = "USER v / 16 % (how many USERS), if there are any, has v % 10 more in its QUEUE (999 at most)")
    static void drawnForTheFirstToTheLast() {
        for (int many = 1; many <= 5; many++) {
            for (int user = 0; user < many; user++) {
                // Only that one can send.
                FairBlocks x = Check.cell("C110" + "u0100.".repeat(user) + "u0109." + "u0100.".repeat(many - 1 - user));
                BigInteger seed = BigInteger.ZERO;
                for (int i = 0; i < 20; i++) {
                    seed = nextSeed(seed);
                    int v = drawnBy(seed);
                    int want = v / 16 % many == user ? v % 10 : 0;
                    CHECK.due("of " + many + " user " + user + ", draw " + i, x.drawn(1), want);
                }
            }
        }
    }

    @Says(at = "Terms", value = "USER v / 16 % (how many USERS), if there are any, has v % 10 more in its QUEUE (999 at most)")
    static void drawnForAFullQueue() {
        FairBlocks x = Check.cell("C410u9109.");
        x.turn(0);
        x.slot(99);
        x.slot(99);
        x.turn(0);
        CHECK.due("full", x.user(0, QUEUE), 999);
        CHECK.due("36 a slot", x.drawn(20), 720);
        CHECK.due("full still", x.user(0, QUEUE), 999);
    }

    @Says(at = "Terms", value = "m times (1 to 20) x")
    static void drawnOnceToTwentyTimes() {
        for (int m = 1; m <= 20; m++) {
            FairBlocks x = Check.cell("C110u0109.");
            BigInteger seed = BigInteger.ZERO;
            int all = 0;
            for (int i = 0; i < m; i++) {
                seed = nextSeed(seed);
                all += drawnBy(seed) % 10;
            }
            CHECK.due("drawn(" + m + ")", x.drawn(m), all);
            CHECK.due("the seed", x.seed(0), seed.longValue());
        }
    }

    @Says(at = "Terms", value = "then there is a SLOT, all from then on")
    static void drawnGoesOn() {
        // Rate 1: what is drawn more than that waits for later slots, and comes to the next draws of one call.
        FairBlocks x = Check.cell("C110u0101.");
        BigInteger seed = BigInteger.ZERO;
        int queue = 0;
        int all = 0;
        for (int i = 0; i < 20; i++) {
            seed = nextSeed(seed);
            queue += drawnBy(seed) % 10;
            all += Math.min(queue, 1);
            queue -= Math.min(queue, 1);
        }
        CHECK.due("drawn(20)", x.drawn(20), all);
        // Rate 9 only in each sixth slot: the clock goes on, too.
        FairBlocks y = Check.cell("C110u910000009.");
        CHECK.due("five slots", y.drawn(5), 0);
        CHECK.due("six slots", y.drawn(6), 9);
    }

    @Says(at = "Terms", value = "(Nothing changes but THE SEED.)")
    static void drawnChangesNothingElse() {
        Twins twins = new Twins(CHECK);
        for (int m : new int[] {1, 20}) {
            twins.leaves("drawn(" + m + ")", x -> {
                long seed = x.seed(0);
                x.seed(seed);
                int answer = x.drawn(m);
                x.seed(seed);
                return answer;
            });
        }
    }

    @Says(at = "Terms", value = "DRAWN without USERS: SLOTS in which nobody GOT anything.")
    static void drawnWithoutUsers() {
        FairBlocks x = new FairBlocks();
        CHECK.due("drawn(1)", x.drawn(1), 0);
        CHECK.due("the seed goes on", x.seed(0), 1442695040888963407L);
        CHECK.due("drawn(20)", x.drawn(20), 0);
        CHECK.due("the clock does not", x.count(5), 0);
    }

    // ---- kept

    @Says(at = "Terms", value = "SLOTS to keep in, 0 to 1, keep all that there is of USERS "
        + "(COMES, WEIGHT, LOSES, OFF, too), PATIENCE, THE CLOCK")
    static void twoPlacesToKeepIn() {
        FairBlocks x = Check.cell("C212u9125.u39041.");
        x.slot(3);
        x.turn(1);
        x.set(0, 0, 8);
        x.set(0, 1, 7);
        x.set(0, 2, 3);
        x.patience(6);
        CHECK.due("keep(0)", x.keep(0), 3);
        String first = noActs(x);
        x.slot(4);
        x.turn(0);
        x.set(0, 0, 1);
        x.set(1, 1, 1);
        x.set(1, 2, 1);
        x.patience(0);
        CHECK.due("keep(1)", x.keep(1), 7);
        String second = noActs(x);
        x.drop(0);
        CHECK.due("again(0)", x.again(0), 3);
        CHECK.holds("the first", first.equals(noActs(x)));
        CHECK.due("again(1)", x.again(1), 7);
        CHECK.holds("the second", second.equals(noActs(x)));
        CHECK.due("keep(2)", x.keep(2), UNKNOWN);
        CHECK.due("again(2)", x.again(2), UNKNOWN);
        CHECK.due("keep(-1)", x.keep(-1), UNKNOWN);
        CHECK.due("again(-1)", x.again(-1), UNKNOWN);
    }

    /** The standing but for how many acts there are: the ninth number. */
    private static String noActs(FairBlocks x) {
        String[] parts = Check.standing(x).split(" ");
        parts[8] = "";
        return String.join(" ", parts);
    }

    @Says(at = "Terms", value = "(THE ROW of ACTS is empty when one goes on)")
    static void noActsWhenOneGoesOn() {
        FairBlocks x = Check.cell("C110u9105.");
        x.slot(1);
        x.keep(1);
        CHECK.due("keep leaves the acts", x.count(8), 1);
        x.slot(1);
        x.again(1);
        CHECK.due("none", x.count(8), 0);
        CHECK.due("undo()", x.undo(), STATE);
        CHECK.due("the clock", x.count(5), 1);
        for (int i = 1; i <= 15; i++) {
            x.patience(i % 10);
            CHECK.due("acts from then on", x.count(8), Math.min(i, 14));
        }
    }
}
