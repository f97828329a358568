import java.util.Random;

/** Promises 13 to 18: ahead, who, longest, empty, best, judge. */
public final class AskedTest {
    private static final Check CHECK = new Check("AskedTest");
    private static final int UNKNOWN = FairBlocks.UNKNOWN, OUTSIDE = FairBlocks.OUTSIDE, NONE = FairBlocks.NONE;
    private static final String[] CELLS = {
        "C110u9103.u9203.", "C212u9125.u39041.u5109.", "C321u3415312.u210207.u05090.",
        "C430u9119.u9939.u1101.u2102.u4505.", "C111u9909.u9101.", "C140u2109.u3301.u9202."};

    public static void main(String[] args) {
        ahead();
        aheadIsAsSlotsDo();
        who();
        longest();
        empty();
        emptyAtItsEdge();
        best();
        bestIsAsSetDoes();
        judgeEach();
        judgeGoesOn();
        judgeOfOne();
        judgeRefused();
        askedChangesNothing();
        CHECK.end();
    }

    private static void ahead() {
        FairBlocks x = Check.cell("C110u3105.u9100.");
        int[][] behind = {{0, 0, 0, 0, 0, 0}, {0, 0, 24, 0, 1, 3}, {0, 0, 36, 0, 2, 6}};
        for (int n = 0; n < behind.length; n++) {
            for (int what = 5; what <= 10; what++) {
                CHECK.due("ahead(" + n + ", 0, " + what + ")", x.ahead(n, 0, what), behind[n][what - 5]);
            }
        }
        CHECK.due("ahead(99, 0, 10)", x.ahead(99, 0, 10), 297);
        CHECK.due("ahead(99, 1, 5)", x.ahead(99, 1, 5), 891);
        CHECK.due("ahead(99, 1, 8)", x.ahead(99, 1, 8), 99);
        CHECK.due("ahead(-1, 0, 5)", x.ahead(-1, 0, 5), OUTSIDE);
        CHECK.due("ahead(100, 0, 5)", x.ahead(100, 0, 5), OUTSIDE);
        CHECK.due("ahead(0, 0, 4)", x.ahead(0, 0, 4), OUTSIDE);
        CHECK.due("ahead(0, 0, 11)", x.ahead(0, 0, 11), OUTSIDE);
        CHECK.due("ahead(-1, 2, 4)", x.ahead(-1, 2, 4), UNKNOWN);
        CHECK.due("ahead(0, -1, 5)", x.ahead(0, -1, 5), UNKNOWN);
    }

    private static void aheadIsAsSlotsDo() {
        for (String cell : CELLS) {
            FairBlocks x = Check.cell(cell);
            x.slot(4);
            for (int n = 1; n <= 12; n++) {
                FairBlocks y = Check.cell(cell);
                y.slot(4);
                y.slot(n);
                for (int user = 0; user < x.count(1); user++) {
                    for (int what = 5; what <= 10; what++) {
                        CHECK.due(cell + " ahead(" + n + ", " + user + ", " + what + ")",
                            x.ahead(n, user, what), y.user(user, what));
                    }
                }
            }
        }
    }

    private static void who() {
        FairBlocks x = Check.cell("C410u5105.u9202.");
        // DUE 5 to 4: user 0 empties its row, then user 1 has the rest.
        int[] want = {0, 1, 1, 1};
        for (int block = 0; block < 4; block++) {
            CHECK.due("who(" + block + ")", x.who(block), want[block]);
        }
        CHECK.due("who(-1)", x.who(-1), OUTSIDE);
        CHECK.due("who(4)", x.who(4), OUTSIDE);
        x.turn(1);
        CHECK.due("off: who(1)", x.who(1), NONE);
        CHECK.due("off: who(3)", x.who(3), NONE);
        CHECK.due("its coming is looked at", x.user(0, 5), 0);
        FairBlocks y = Check.cell("C210");
        CHECK.due("no users: who(1)", y.who(1), NONE);
        CHECK.due("two blocks: who(2)", y.who(2), OUTSIDE);
    }

    private static void longest() {
        FairBlocks x = Check.cell("C110u9109.u9109.");
        CHECK.due("longest(0, 1)", x.longest(0, 1), 0);
        CHECK.due("longest(0, 2)", x.longest(0, 2), 1);
        CHECK.due("longest(1, 1)", x.longest(1, 1), 1);
        CHECK.due("longest(0, 0)", x.longest(0, 0), OUTSIDE);
        CHECK.due("longest(0, 100)", x.longest(0, 100), OUTSIDE);
        CHECK.due("longest(2, 0)", x.longest(2, 0), UNKNOWN);
        CHECK.due("longest(-1, 1)", x.longest(-1, 1), UNKNOWN);
        FairBlocks y = Check.cell("C110u91009.u9100.");
        y.slot(1);
        CHECK.due("it waits now", y.user(0, 8), 1);
        CHECK.due("that is not looked at", y.longest(0, 1), 0);
        CHECK.due("it waits behind two", y.longest(0, 2), 1);
        CHECK.due("longest(1, 99)", y.longest(1, 99), 100);
        y.turn(1);
        CHECK.due("off: longest(1, 99)", y.longest(1, 99), 0);
        // The greatest is not the last one.
        FairBlocks z = Check.cell("C110u9100009.");
        CHECK.due("longest(0, 2)", z.longest(0, 2), 2);
        CHECK.due("longest(0, 4)", z.longest(0, 4), 3);
    }

    private static void empty() {
        FairBlocks x = Check.cell("C110u91009.u9125.");
        CHECK.due("ahead of any coming", x.empty(0), 0);
        x.slot(1);
        CHECK.due("never", x.empty(0), NONE);
        x.set(0, 0, 0);
        x.drop(1);
        x.set(1, 0, 0);
        CHECK.due("behind one", x.empty(0), 1);
        CHECK.due("it has none", x.empty(1), 0);
        CHECK.due("empty(2)", x.empty(2), UNKNOWN);
        CHECK.due("empty(-1)", x.empty(-1), UNKNOWN);
        FairBlocks y = Check.cell("C110u9115.");
        y.slot(1);
        y.set(0, 0, 0);
        y.drop(0);
        CHECK.due("dropped", y.empty(0), 0);
        y.undo();
        y.set(0, 2, 2);
        // Queue 4, AGAIN 5, one SENT: the second is lost, the third goes again, the fourth is lost, the fifth has it.
        CHECK.due("what goes again counts", y.empty(0), 4);
    }

    /** Rate 1 in each sixth slot, so that the row is less by one each time. */
    private static FairBlocks slowRow(int queue, int clock) {
        FairBlocks x = Check.cell("C110u010000001.");
        x.turn(0);
        x.set(0, 0, 5);
        x.slot(queue / 5);
        x.set(0, 0, queue % 5);
        x.slot(1);
        x.set(0, 0, 0);
        x.slot(clock - queue / 5 - 1);
        x.turn(0);
        CHECK.due("the row", x.user(0, 5), queue);
        return x;
    }

    private static void emptyAtItsEdge() {
        CHECK.due("60 slots", slowRow(10, 6).empty(0), 60);
        CHECK.due("61 slots", slowRow(11, 5).empty(0), NONE);
        CHECK.due("55 slots", slowRow(10, 5).empty(0), 55);
    }

    private static void best() {
        FairBlocks x = Check.cell("C110u3105.");
        CHECK.due("alone: of like ones the least", x.best(0), 1);
        CHECK.due("best(1)", x.best(1), UNKNOWN);
        CHECK.due("best(-1)", x.best(-1), UNKNOWN);
        FairBlocks y = Check.cell("C110u9109.u9101.u9109.");
        y.turn(2);
        CHECK.due("one is off, so the least is 0", y.best(1), 1);
        y.turn(2);
        CHECK.holds("more than the least weight is best", y.best(1) > 1);
    }

    private static String someCell(Random random) {
        StringBuilder s = new StringBuilder("C").append(1 + random.nextInt(3)).append(1 + random.nextInt(4)).append(0);
        int users = 2 + random.nextInt(3);
        for (int i = 0; i < users; i++) {
            s.append('u').append(5 + random.nextInt(5)).append(1 + random.nextInt(9)).append(0);
            s.append(1 + random.nextInt(9)).append(random.nextInt(10)).append('.');
        }
        return s.toString();
    }

    private static void bestIsAsSetDoes() {
        Random random = new Random(17);
        int[] found = new int[10];
        for (int i = 0; i < 60; i++) {
            String cell = i < CELLS.length ? CELLS[i] : someCell(random);
            int users = Check.cell(cell).count(1);
            for (int user = 0; user < users; user++) {
                int best = bestBySet(cell, user);
                found[best]++;
                FairBlocks x = Check.cell(cell);
                x.slot(3);
                CHECK.due(cell + " best(" + user + ")", x.best(user), best);
            }
        }
        CHECK.holds("1, 2 and 9 are best for some", found[1] > 0 && found[2] > 0 && found[9] > 0);
    }

    private static int bestBySet(String cell, int user) {
        FairBlocks x = Check.cell(cell);
        x.slot(3);
        int best = 0;
        int most = -1;
        for (int weight = 1; weight <= 9; weight++) {
            FairBlocks y = Check.cell(cell);
            y.slot(3);
            y.set(user, 1, weight);
            y.slot(30);
            int least = 9999;
            for (int i = 0; i < x.count(1); i++) {
                least = Math.min(least, y.user(i, 10) - x.user(i, 10));
            }
            if (least > most) {
                most = least;
                best = weight;
            }
        }
        return best;
    }

    private static void judgeEach() {
        FairBlocks x = Check.cell("C210u9105.u9203.");
        x.slot(1);
        // Slot 0: user 1 (6 to 5) has both blocks; user 0 waits 1, with 9; user 1 has 3.
        CHECK.due("slots", x.judge(1, 101), NONE);
        CHECK.due("99 slots", x.judge(1, 199), NONE);
        CHECK.due("no slots", x.judge(1, 100), 0);
        CHECK.due("turned", x.judge(1, 201), NONE);
        CHECK.due("turned, no such user", x.judge(1, 202), 0);
        CHECK.due("turned, not 0", x.judge(1, 210), 0);
        CHECK.due("dropped", x.judge(1, 300), NONE);
        CHECK.due("dropped, no such user", x.judge(1, 302), 0);
        CHECK.due("dropped, not 0", x.judge(1, 311), 0);
        CHECK.due("weight", x.judge(1, 419), NONE);
        CHECK.due("weight 0", x.judge(1, 410), 0);
        CHECK.due("weight, no such user", x.judge(1, 421), 0);
        CHECK.due("wait is 1", x.judge(1, 501), NONE);
        CHECK.due("wait is 0", x.judge(1, 500), 0);
        CHECK.due("wait of user 1 is 0", x.judge(1, 510), NONE);
        CHECK.due("wait, no such user", x.judge(1, 520), 0);
        CHECK.due("block 0", x.judge(1, 600), NONE);
        CHECK.due("block 0 of user 1", x.judge(1, 610), 0);
        CHECK.due("block 1", x.judge(1, 601), NONE);
        CHECK.due("no such block", x.judge(1, 602), 0);
        CHECK.due("block, no such user", x.judge(1, 620), 0);
        CHECK.due("has a queue", x.judge(1, 701), NONE);
        CHECK.due("has none", x.judge(1, 700), 0);
        CHECK.due("neither 1 nor 0", x.judge(1, 702), 0);
        CHECK.due("queue, no such user", x.judge(1, 720), 0);
        CHECK.due("0 can not be", x.judge(1, 0), 0);
        CHECK.due("8 can not be", x.judge(1, 800), 0);
        CHECK.due("9 can not be", x.judge(1, 900), 0);
    }

    private static void judgeGoesOn() {
        FairBlocks x = Check.cell("C210u9105.u9203.");
        x.slot(1);
        CHECK.due("dropped, then none", x.judge(2, 300700), NONE);
        CHECK.due("dropped, then some", x.judge(2, 300701), 1);
        CHECK.due("dropped, a slot: it has 9 and sends 5 and 4", x.judge(4, 300700101700L), NONE);
        CHECK.due("a slot: it has 18 and keeps 8", x.judge(2, 101701), NONE);
        CHECK.due("turned twice", x.judge(3, 200200600), NONE);
        CHECK.due("turned, then no block", x.judge(2, 200600), 1);
        CHECK.due("turned, then of user 1", x.judge(3, 200610611), NONE);
        CHECK.due("turned leaves the wait", x.judge(2, 200501), NONE);
        CHECK.due("turned, a slot, no wait", x.judge(3, 200101500), NONE);
        // Rate 3, weight 9, mean 48 of user 1 against 5, 1, 0: 27 to 5 * 49.
        CHECK.due("weight", x.judge(2, 419600), NONE);
        CHECK.due("the last of four", x.judge(4, 101101101900L), 3);
        CHECK.due("the first of four", x.judge(4, 101101101L), 0);
        CHECK.due("asked twice, changes nothing", x.judge(4, 600600601501L), NONE);
        FairBlocks y = Check.cell("C110u9103.u9203.");
        CHECK.due("weight 1 to 2", y.judge(1, 610), NONE);
        CHECK.due("weight told, then asked", y.judge(3, 403600610), 2);
        FairBlocks z = Check.cell("C110u9115.");
        z.slot(1);
        z.set(0, 0, 0);
        z.set(0, 2, 0);
        CHECK.due("5 of AGAIN go first", z.judge(4, 701101701101L), NONE);
        CHECK.due("4 of the queue behind them", z.judge(3, 102700701), 2);
    }

    private static void judgeOfOne() {
        FairBlocks x = Check.cell("C110u1100.");
        CHECK.due("none, a slot, one", x.judge(3, 700101701), NONE);
        CHECK.due("none, a slot, none", x.judge(3, 700101700), 2);
    }

    private static void judgeRefused() {
        FairBlocks x = Check.cell("C210u9105.u9203.");
        CHECK.due("judge(0, 0)", x.judge(0, 0), OUTSIDE);
        CHECK.due("judge(5, 101)", x.judge(5, 101), OUTSIDE);
        CHECK.due("judge(-1, 101)", x.judge(-1, 101), OUTSIDE);
        CHECK.due("judge(1, -1)", x.judge(1, -1), OUTSIDE);
        CHECK.due("judge(1, 1000)", x.judge(1, 1000), OUTSIDE);
        CHECK.due("judge(1, 999)", x.judge(1, 999), 0);
        CHECK.due("judge(2, 1000000)", x.judge(2, 1000000), OUTSIDE);
        CHECK.due("judge(2, 101)", x.judge(2, 101), 0);
        CHECK.due("judge(4, 10^12)", x.judge(4, 1000000000000L), OUTSIDE);
        CHECK.due("judge(4, 10^12 - 1)", x.judge(4, 999999999999L), 0);
        CHECK.due("judge(4, most)", x.judge(4, Long.MAX_VALUE), OUTSIDE);
        CHECK.due("judge(4, least)", x.judge(4, Long.MIN_VALUE), OUTSIDE);
    }

    private static void askedChangesNothing() {
        for (String cell : CELLS) {
            FairBlocks x = Check.cell(cell);
            x.slot(5);
            x.turn(1);
            x.see(2, 0, 1, 9, 0);
            String before = Check.standing(x);
            x.ahead(40, 0, 5);
            x.who(0);
            x.longest(0, 50);
            x.empty(0);
            x.best(0);
            x.judge(4, 109201301409L);
            x.which();
            x.share(0, true);
            x.fails(0, 5, 3, true);
            x.drawn(20);
            x.keep(0);
            CHECK.holds(cell + " is as it was", before.equals(Check.standing(x)));
        }
    }
}
