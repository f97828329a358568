/** Promises 7 to 12: slot (with how a SLOT goes), turn, drop, set, patience, undo. */
public final class ActsTest {
    private static final Check CHECK = new Check("ActsTest");
    private static final int UNKNOWN = FairBlocks.UNKNOWN, OUTSIDE = FairBlocks.OUTSIDE, STATE = FairBlocks.STATE;
    private static final int QUEUE = 5, AGAIN = 6, MEAN = 7, WAIT = 8, SENT = 9, GOT = 10;

    public static void main(String[] args) {
        means();
        lostGoesAgain();
        lostGoesAgainInTheSameSlot();
        againIsSentAlone();
        againComesFirst();
        oneStretchOfBlocks();
        patienceComesBeforeDue();
        ofLikeOnesTheLeast();
        dueByWeightAndMean();
        queueIsFull();
        slotRefused();
        turn();
        drop();
        set();
        patience();
        undoOfEach();
        undoForgetsTheFirst();
        CHECK.end();
    }

    /** What user() tells of 5 to 10, in that row. */
    private static void stands(String when, FairBlocks x, int user, int... want) {
        for (int i = 0; i < want.length; i++) {
            CHECK.due(when + ": user(" + user + ", " + (QUEUE + i) + ")", x.user(user, QUEUE + i), want[i]);
        }
    }

    private static void means() {
        FairBlocks x = Check.cell("C110u3105.");
        int[] means = {24, 36, 42, 45, 47, 48, 48};
        for (int i = 0; i < means.length; i++) {
            CHECK.due("slot " + i, x.slot(1), 3);
            CHECK.due("mean behind slot " + i, x.user(0, MEAN), means[i]);
        }
        stands("seven slots", x, 0, 0, 0, 48, 0, 7, 21);
        CHECK.due("the clock", x.count(5), 7);
        FairBlocks y = Check.cell("C120u3105.");
        int[] others = {12, 21, 28};
        for (int i = 0; i < others.length; i++) {
            y.slot(1);
            CHECK.due("shift 2, slot " + i, y.user(0, MEAN), others[i]);
        }
        FairBlocks z = Check.cell("C140u1101.");
        z.slot(1);
        CHECK.due("shift 4: 16 >> 4", z.user(0, MEAN), 1);
        z.turn(0);
        z.slot(1);
        CHECK.due("shift 4: 1 - (1 >> 4)", z.user(0, MEAN), 1);
    }

    private static void lostGoesAgain() {
        FairBlocks x = Check.cell("C110u5125.");
        CHECK.due("first", x.slot(1), 5);
        stands("first", x, 0, 0, 0, 40, 0, 1, 5);
        CHECK.due("second is lost", x.slot(1), 0);
        stands("second is lost", x, 0, 0, 5, 20, 0, 2, 5);
        CHECK.due("third goes again", x.slot(1), 5);
        stands("third goes again", x, 0, 5, 0, 50, 0, 3, 10);
        CHECK.due("four more", x.slot(4), 10);
        stands("four more", x, 0, 15, 0, 54, 0, 7, 20);
    }

    private static void lostGoesAgainInTheSameSlot() {
        FairBlocks x = Check.cell("C410u5115.");
        CHECK.due("all is lost", x.slot(1), 0);
        stands("all is lost", x, 0, 0, 5, 0, 0, 4, 0);
        CHECK.due("all is lost once more", x.slot(1), 0);
        stands("all is lost once more", x, 0, 5, 5, 0, 0, 8, 0);
        FairBlocks y = Check.cell("C210u9125.");
        CHECK.due("5 had, 4 lost", y.slot(1), 5);
        stands("5 had, 4 lost", y, 0, 0, 4, 40, 0, 2, 5);
        CHECK.due("4 had again, 5 lost", y.slot(1), 4);
        stands("4 had again, 5 lost", y, 0, 4, 5, 52, 0, 4, 9);
    }

    private static void againIsSentAlone() {
        FairBlocks x = Check.cell("C110u91192.");
        x.slot(1);
        stands("nine are lost", x, 0, 0, 9, 0, 0, 1, 0);
        CHECK.due("loses no more", x.set(0, 2, 0), 1);
        CHECK.due("two of nine", x.slot(1), 2);
        stands("two of nine", x, 0, 9, 7, 16, 0, 2, 2);
        CHECK.due("seven and none of the queue", x.slot(1), 7);
        stands("seven and none of the queue", x, 0, 18, 0, 64, 0, 3, 9);
    }

    private static void againComesFirst() {
        // User 1 has more wait and is far better off, but user 0 has AGAIN.
        FairBlocks x = Check.cell("C112u1111.u99009.");
        x.slot(1);
        stands("user 0 lost one", x, 0, 0, 1, 0, 0, 1, 0);
        CHECK.due("user 1 had rate 0", x.user(1, WAIT), 1);
        CHECK.due("who(0)", x.who(0), 0);
        x.slot(3);
        CHECK.due("user 1 waited", x.user(1, WAIT), 4);
        CHECK.due("AGAIN still comes ahead of patience", x.who(0), 0);
        x.set(0, 2, 0);
        x.slot(1);
        CHECK.due("no AGAIN is left", x.user(0, AGAIN), 0);
        CHECK.due("then who waited too long", x.count(5), 5);
        CHECK.due("user 1 has rate 9 in slot 5", x.who(0), 1);
        // Of two with AGAIN that of the greatest WAIT; of like ones the least.
        FairBlocks y = Check.cell("C210u9111.u9111.");
        CHECK.due("both lose: block 0", y.who(0), 0);
        CHECK.due("it goes again at once: block 1", y.who(1), 0);
        y.slot(1);
        y.turn(0);
        y.slot(1);
        y.turn(0);
        CHECK.due("both have AGAIN", y.user(0, AGAIN) + y.user(1, AGAIN), 2);
        CHECK.due("like waits: the least", y.who(0), 0);
        y.slot(1);
        CHECK.due("user 1 waits", y.user(1, WAIT), 1);
        CHECK.due("the greatest wait", y.who(0), 1);
    }

    private static void oneStretchOfBlocks() {
        FairBlocks x = Check.cell("C310u9125.u5909.");
        CHECK.due("block 0", x.who(0), 1);
        CHECK.due("block 1", x.who(1), 0);
        CHECK.due("block 2, right behind its own", x.who(2), 0);
        CHECK.due("slot 0", x.slot(1), 10);
        stands("slot 0", x, 0, 0, 4, 40, 0, 2, 5);
        stands("slot 0", x, 1, 0, 0, 40, 0, 1, 5);
        CHECK.due("block 0 goes again", x.who(0), 0);
        CHECK.due("block 1 by due", x.who(1), 1);
        CHECK.due("block 2: user 0 had its stretch", x.who(2), FairBlocks.NONE);
        CHECK.due("slot 1", x.slot(1), 9);
        stands("slot 1", x, 0, 9, 0, 52, 0, 3, 9);
        stands("slot 1", x, 1, 0, 0, 60, 0, 2, 10);
    }

    private static void patienceComesBeforeDue() {
        FairBlocks x = Check.cell("C111u9909.u9101.");
        CHECK.due("by due", x.who(0), 0);
        x.slot(1);
        stands("user 1 waits", x, 1, 9, 0, 0, 1, 0, 0);
        CHECK.due("it waited long enough", x.who(0), 1);
        x.patience(2);
        CHECK.due("not with more patience: 81 to 73", x.who(0), 0);
        x.patience(0);
        CHECK.due("patience 0 looks at none", x.who(0), 0);
        x.undo();
        x.undo();
        x.slot(1);
        stands("its wait is over", x, 1, 17, 0, 8, 0, 1, 1);
        CHECK.due("user 0 waits", x.user(0, WAIT), 1);
        // Of those that wait too long the greatest WAIT, whatever the due.
        FairBlocks y = Check.cell("C111u910009.u910009.u910001.");
        y.turn(0);
        y.turn(1);
        y.slot(1);
        y.turn(0);
        y.turn(1);
        y.slot(1);
        CHECK.due("user 0 waits", y.user(0, WAIT), 1);
        CHECK.due("user 2 waits", y.user(2, WAIT), 2);
        CHECK.due("the greatest wait", y.who(0), 2);
        y.patience(2);
        CHECK.due("as much as the patience", y.who(0), 2);
        y.patience(3);
        CHECK.due("less than the patience", y.who(0), 0);
    }

    private static void ofLikeOnesTheLeast() {
        FairBlocks x = Check.cell("C110u9103.u9103.u9103.");
        CHECK.due("like dues", x.who(0), 0);
        x.slot(1);
        CHECK.due("like dues of those that had none", x.who(0), 1);
        x.slot(1);
        CHECK.due("the last", x.who(0), 2);
        FairBlocks y = Check.cell("C115u9100001.u9100009.u9100009.");
        y.slot(2);
        CHECK.due("none has a rate", y.who(0), FairBlocks.NONE);
        y.patience(2);
        y.slot(1);
        CHECK.due("like waits: the least, not the best off", y.who(0), 0);
        y.patience(0);
        CHECK.due("without patience the best off", y.who(0), 1);
    }

    private static void dueByWeightAndMean() {
        FairBlocks x = Check.cell("C110u9103.u9203.");
        CHECK.due("slot 0", x.who(0), 1);
        x.slot(1);
        stands("slot 0", x, 0, 9, 0, 0, 1, 0, 0);
        stands("slot 0", x, 1, 6, 0, 24, 0, 1, 3);
        CHECK.due("slot 1: 75 to 6", x.who(0), 0);
        x.slot(1);
        stands("slot 1", x, 0, 15, 0, 24, 0, 1, 3);
        stands("slot 1", x, 1, 15, 0, 12, 1, 1, 3);
        CHECK.due("slot 2: 39 to 150", x.who(0), 1);
        // The mean is the one ahead of the SLOT: all four blocks go to one that is not empty by then.
        FairBlocks y = Check.cell("C410u9101.u9101.");
        CHECK.due("four blocks", y.slot(1), 4);
        CHECK.due("all of user 0", y.user(0, SENT), 4);
        CHECK.due("mean of four", y.user(0, MEAN), 32);
    }

    private static void queueIsFull() {
        FairBlocks x = Check.cell("C110u9100.u9109.");
        x.turn(1);
        CHECK.due("nothing is had", x.slot(99), 0);
        stands("rate 0", x, 0, 891, 0, 0, 99, 0, 0);
        stands("off", x, 1, 891, 0, 0, 0, 0, 0);
        x.slot(12);
        CHECK.due("not yet full", x.user(0, QUEUE), 999);
        x.slot(99);
        stands("full", x, 0, 999, 0, 0, 210, 0, 0);
        stands("full and off", x, 1, 999, 0, 0, 0, 0, 0);
    }

    private static void slotRefused() {
        FairBlocks x = Check.cell("C110u3105.");
        CHECK.due("slot(0)", x.slot(0), OUTSIDE);
        CHECK.due("slot(-1)", x.slot(-1), OUTSIDE);
        CHECK.due("slot(100)", x.slot(100), OUTSIDE);
        CHECK.due("the clock", x.count(5), 0);
        CHECK.due("no act", x.count(8), 0);
        CHECK.due("slot(99)", x.slot(99), 297);
        CHECK.due("one act", x.count(8), 1);
        CHECK.due("the clock", x.count(5), 99);
    }

    private static void turn() {
        FairBlocks x = Check.cell("C110u91009.u3105.");
        x.slot(1);
        CHECK.due("turn(0)", x.turn(0), 1);
        CHECK.due("user(0, 4)", x.user(0, 4), 1);
        CHECK.due("count(6)", x.count(6), 1);
        CHECK.due("turned itself leaves the wait", x.user(0, WAIT), 1);
        x.slot(1);
        stands("off", x, 0, 18, 0, 0, 0, 0, 0);
        CHECK.due("turn(0) back", x.turn(0), 0);
        CHECK.due("user(0, 4)", x.user(0, 4), 0);
        CHECK.due("turn(-1)", x.turn(-1), UNKNOWN);
        CHECK.due("turn(2)", x.turn(2), UNKNOWN);
        CHECK.due("acts", x.count(8), 4);
    }

    private static void drop() {
        FairBlocks x = Check.cell("C210u9125.");
        x.slot(2);
        stands("4 and 5 wait", x, 0, 4, 5, 52, 0, 4, 9);
        CHECK.due("drop(0)", x.drop(0), 9);
        stands("dropped", x, 0, 0, 0, 52, 0, 4, 9);
        CHECK.due("drop(0) of nothing", x.drop(0), 0);
        CHECK.due("that is an act, too", x.count(8), 3);
        CHECK.due("drop(-1)", x.drop(-1), UNKNOWN);
        CHECK.due("drop(1)", x.drop(1), UNKNOWN);
        CHECK.due("no act", x.count(8), 3);
    }

    private static void set() {
        FairBlocks x = Check.cell("C110u3459.");
        CHECK.due("set(0, 0, 9)", x.set(0, 0, 9), 3);
        CHECK.due("set(0, 1, 1)", x.set(0, 1, 1), 4);
        CHECK.due("set(0, 2, 0)", x.set(0, 2, 0), 5);
        CHECK.due("comes", x.user(0, 1), 9);
        CHECK.due("weight", x.user(0, 2), 1);
        CHECK.due("loses", x.user(0, 3), 0);
        CHECK.due("set(0, 0, 0)", x.set(0, 0, 0), 9);
        CHECK.due("set(0, 1, 9)", x.set(0, 1, 9), 1);
        CHECK.due("acts", x.count(8), 5);
        CHECK.due("weight 0", x.set(0, 1, 0), OUTSIDE);
        CHECK.due("v 10", x.set(0, 0, 10), OUTSIDE);
        CHECK.due("weight 10", x.set(0, 1, 10), OUTSIDE);
        CHECK.due("v -1", x.set(0, 2, -1), OUTSIDE);
        CHECK.due("what 3", x.set(0, 3, 1), OUTSIDE);
        CHECK.due("what -1", x.set(0, -1, 1), OUTSIDE);
        CHECK.due("no such user", x.set(1, 3, 99), UNKNOWN);
        CHECK.due("no such user", x.set(-1, 0, 0), UNKNOWN);
        CHECK.due("no act more", x.count(8), 5);
        // LOSES counts all that was SENT, in SLOTS ahead, too.
        FairBlocks y = Check.cell("C110u1101.");
        y.slot(2);
        y.set(0, 2, 3);
        CHECK.due("the third one is lost", y.slot(1), 0);
    }

    private static void patience() {
        FairBlocks x = Check.cell("C114");
        CHECK.due("patience(9)", x.patience(9), 4);
        CHECK.due("patience(0)", x.patience(0), 9);
        CHECK.due("count(4)", x.count(4), 0);
        CHECK.due("patience(-1)", x.patience(-1), OUTSIDE);
        CHECK.due("patience(10)", x.patience(10), OUTSIDE);
        CHECK.due("acts", x.count(8), 2);
        CHECK.due("undo()", x.undo(), 1);
        CHECK.due("count(4)", x.count(4), 9);
    }

    private static void act(FairBlocks x, int i) {
        switch (i) {
            case 0 -> x.slot(5);
            case 1 -> x.turn(1);
            case 2 -> x.drop(0);
            case 3 -> x.set(0, 0, 1);
            case 4 -> x.set(1, 1, 1);
            case 5 -> x.set(1, 2, 1);
            default -> x.patience(7);
        }
    }

    private static void undoOfEach() {
        for (int i = 0; i <= 6; i++) {
            FairBlocks x = Check.cell("C212u9125.u39041.");
            x.slot(3);
            String first = Check.standing(x);
            for (int earlier = 0; earlier < i; earlier++) {
                act(x, earlier);
            }
            String before = Check.standing(x);
            act(x, i);
            CHECK.holds("act " + i + " does something", !before.equals(Check.standing(x)));
            x.seed(5);
            x.see(0, 0, 0, 0, 0);
            CHECK.due("undo of act " + i, x.undo(), i + 1);
            CHECK.holds("as it was ahead of act " + i, before.equals(withoutSeen(Check.standing(x))));
            for (int earlier = i - 1; earlier >= 0; earlier--) {
                CHECK.due("undo of act " + earlier, x.undo(), earlier + 1);
            }
            CHECK.holds("as it was ahead of all", first.equals(withoutSeen(Check.standing(x))));
            CHECK.due("the seed is no act", x.seed(0), 5);
            CHECK.due("what is seen is no act", x.count(9), 1);
        }
    }

    /** The standing with nothing seen: the tenth number is 0. */
    private static String withoutSeen(String standing) {
        String[] parts = standing.split(" ");
        parts[9] = "0";
        return String.join(" ", parts) + " ";
    }

    private static void undoForgetsTheFirst() {
        FairBlocks x = Check.cell("C110");
        for (int i = 1; i <= 16; i++) {
            x.patience(i % 10);
            CHECK.due("acts behind " + i, x.count(8), Math.min(i, 14));
        }
        for (int left = 13; left >= 0; left--) {
            CHECK.due("undo()", x.undo(), left);
        }
        CHECK.due("undo() of none", x.undo(), STATE);
        CHECK.due("the first two stay", x.count(4), 2);
        x.slot(3);
        CHECK.due("undo() of one", x.undo(), 0);
        CHECK.due("the clock", x.count(5), 0);
    }
}
