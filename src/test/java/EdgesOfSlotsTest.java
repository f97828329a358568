/** Boundary cases that the terms name of a SLOT and of ACTS. */
public final class EdgesOfSlotsTest {
    private static final Check CHECK = new Check("EdgesOfSlotsTest");
    private static final int OUTSIDE = FairBlocks.OUTSIDE, STATE = FairBlocks.STATE, NONE = FairBlocks.NONE;
    private static final int UNKNOWN = FairBlocks.UNKNOWN;
    private static final int QUEUE = 5, AGAIN = 6, MEAN = 7, WAIT = 8, SENT = 9, GOT = 10;

    public static void main(String[] args) throws Exception {
        Edges.run(EdgesOfSlotsTest.class, CHECK);
        CHECK.end();
    }

    /** What user() tells of 5 to 10, in that row. */
    private static void stands(String when, FairBlocks x, int user, int... want) {
        for (int i = 0; i < want.length; i++) {
            CHECK.due(when + ": user(" + user + ", " + (QUEUE + i) + ")", x.user(user, QUEUE + i), want[i]);
        }
    }

    private static void whoHas(String when, FairBlocks x, int... want) {
        for (int block = 0; block < want.length; block++) {
            CHECK.due(when + ": who(" + block + ")", x.who(block), want[block]);
        }
    }

    /** A cell of one user, with so much in its queue, nothing that comes, and nothing sent. */
    private static FairBlocks withQueue(String cell, int queue) {
        FairBlocks x = Check.cell(cell);
        x.turn(0);
        x.set(0, 0, 9);
        for (int left = queue / 9; left > 0; left -= 99) {
            x.slot(Math.min(left, 99));
        }
        x.set(0, 0, queue % 9);
        x.slot(1);
        x.set(0, 0, 0);
        x.turn(0);
        CHECK.due("its queue", x.user(0, QUEUE), queue);
        return x;
    }

    // ---- coming

    @Says(at = "Terms", value = "COMING: the QUEUE of each USER (OFF, too) is COMES more (999 at most).")
    static void comingUpTo999() {
        // 110 * 9 is 990: 999 is reached just so; 8 * 124 is 992: it would be passed.
        FairBlocks x = Check.cell("C110u9100.u8100.");
        x.slot(99);
        stands("99 slots", x, 0, 891);
        stands("99 slots", x, 1, 792);
        x.slot(11);
        stands("110 slots", x, 0, 990);
        x.slot(1);
        stands("111 slots", x, 0, 999);
        x.slot(1);
        stands("112 slots", x, 0, 999);
        x.slot(12);
        stands("124 slots", x, 1, 992);
        x.slot(1);
        stands("125 slots", x, 1, 999);
        x.slot(99);
        stands("224 slots", x, 0, 999);
        stands("224 slots", x, 1, 999);
    }

    @Says(at = "Terms", value = "COMING: the QUEUE of each USER (OFF, too) is COMES more (999 at most).")
    static void comingOfOneThatIsOff() {
        FairBlocks x = Check.cell("C110u9109.u0109.");
        x.turn(0);
        x.turn(1);
        x.slot(3);
        stands("off", x, 0, 27);
        stands("nothing comes", x, 1, 0);
        x.slot(99);
        x.slot(99);
        stands("off and full", x, 0, 999);
    }

    @Says(at = "Terms", value = "COMING: the QUEUE of each USER (OFF, too) is COMES more (999 at most).")
    static void comingIsCutAheadOfTheBlocks() {
        FairBlocks x = withQueue("C110u9109.", 999);
        x.set(0, 0, 9);
        x.slot(1);
        stands("999 and 9 are 999, 9 go", x, 0, 990);
        x.slot(1);
        stands("990 and 9 are 999, 9 go", x, 0, 990);
    }

    // ---- who may have a block

    @Says(at = "Terms", value = "a USER MAY have a BLOCK, if it is not OFF")
    static void oneThatIsOffHasNone() {
        FairBlocks x = Check.cell("C110u9909.u9101.");
        whoHas("both", x, 0);
        x.turn(0);
        whoHas("user 0 off", x, 1);
        x.turn(1);
        whoHas("both off", x, NONE);
        // Neither AGAIN nor a long wait help one that is off.
        FairBlocks y = Check.cell("C111u9119.u9101.");
        y.slot(3);
        CHECK.due("AGAIN", y.user(0, AGAIN), 9);
        y.turn(0);
        whoHas("AGAIN, but off", y, 1);
        y.turn(1);
        CHECK.due("wait", y.user(1, WAIT), 3);
        whoHas("waited, but off", y, NONE);
    }

    @Says(at = "Terms", value = "its RATE in this SLOT is more than 0")
    static void oneWithoutARateHasNone() {
        FairBlocks x = Check.cell("C110u91001.");
        whoHas("rate 0", x, NONE);
        x.slot(1);
        whoHas("rate 1", x, 0);
        x.slot(1);
        whoHas("rate 0", x, NONE);
        // Neither AGAIN nor a long wait help one without a rate.
        FairBlocks y = Check.cell("C111u911900.u9101.");
        y.slot(1);
        CHECK.due("AGAIN", y.user(0, AGAIN), 9);
        whoHas("AGAIN, but rate 0", y, 1);
        y.turn(1);
        y.slot(1);
        CHECK.due("wait", y.user(0, WAIT), 1);
        whoHas("waited, but rate 0", y, NONE);
        y.slot(1);
        whoHas("rate 9", y, 0);
    }

    @Says(at = "Terms", value = "its QUEUE or AGAIN is more than 0 (as it is by then)")
    static void oneWithNothingHasNone() {
        FairBlocks x = Check.cell("C110u0109.");
        whoHas("nothing", x, NONE);
        x.set(0, 0, 1);
        whoHas("one comes", x, 0);
        FairBlocks y = Check.cell("C110u1111.");
        y.slot(1);
        y.set(0, 0, 0);
        stands("AGAIN alone", y, 0, 0, 1);
        whoHas("AGAIN alone", y, 0);
        // 9 by 5: two blocks, then it has nothing; 5 by 5: one.
        whoHas("as it is by then", Check.cell("C410u9105."), 0, 0, NONE, NONE);
        whoHas("emptied by its first", Check.cell("C410u5105."), 0, NONE, NONE, NONE);
        whoHas("one is left", Check.cell("C410u6105.u1101."), 0, 0, 1, NONE);
    }

    @Says(at = "Terms", value = "and either it had no BLOCK in this SLOT, or it had the one right ahead of this one")
    static void oneStretch() {
        FairBlocks x = Check.cell("C410u9102.");
        whoHas("right behind its own", x, 0, 0, 0, 0);
        // Slot 0: user 1 sends its 5, user 0 sends 5 and loses 4. Slot 1: AGAIN of user 0, then user 1 by due.
        FairBlocks y = Check.cell("C310u9125.u5909.");
        whoHas("slot 0", y, 1, 0, 0);
        y.slot(1);
        stands("slot 0", y, 0, 0, 4, 40, 0, 2, 5);
        whoHas("slot 1: user 0 had its stretch", y, 0, 1, NONE);
        y.slot(1);
        stands("slot 1", y, 0, 9, 0, 52, 0, 3, 9);
        CHECK.due("in slot 2 it may again", y.who(1) + y.who(2), 0);
    }

    // ---- who has it

    @Says(at = "Terms", value = "to those with AGAIN, if there are any")
    static void againIsAheadOfAllElse() {
        // User 1 waits longer than the patience and is far better off; user 0 has no wait and 1 in AGAIN.
        FairBlocks x = Check.cell("C111u1111.u99009.");
        x.slot(1);
        stands("user 0", x, 0, 0, 1, 0, 0);
        CHECK.due("user 1 waited", x.user(1, WAIT), 1);
        whoHas("AGAIN", x, 0);
        x.drop(0);
        whoHas("no AGAIN", x, 1);
    }

    /** User 2 loses all and hogs the slots: user 1 waits k, user 0 (off till then) 0; user 0 is far better off. */
    private static FairBlocks waited(int k) {
        FairBlocks x = Check.cell("C110u9909.u9101.u9119.");
        x.turn(0);
        x.slot(k);
        x.turn(0);
        x.turn(2);
        CHECK.due("user 1 waited", x.user(1, WAIT), k);
        CHECK.due("user 0 did not", x.user(0, WAIT), 0);
        return x;
    }

    @Says(at = "Terms", value = "else to those whose WAIT is PATIENCE or more, if there are any "
        + "and PATIENCE is more than 0")
    static void waitedAsLongAsThePatience() {
        for (int k = 1; k <= 10; k++) {
            FairBlocks x = waited(k);
            for (int patience = 0; patience <= 9; patience++) {
                x.patience(patience);
                whoHas("waited " + k + ", patience " + patience, x, patience > 0 && k >= patience ? 1 : 0);
            }
        }
        FairBlocks late = waited(99);
        whoHas("waited 99, patience 0", late, 0);
        late.patience(9);
        whoHas("waited 99, patience 9", late, 1);
    }

    @Says(at = "Terms", value = "of both kinds to that of the greatest WAIT, of like ones the least USER")
    static void greatestWaitOfThoseWithAgain() {
        FairBlocks x = Check.cell("C110u9111.u9911.");
        x.turn(1);
        x.slot(1);
        x.turn(0);
        x.turn(1);
        x.slot(1);
        x.turn(0);
        stands("user 0", x, 0, 17, 1, 0, 0);
        stands("user 1", x, 1, 17, 1, 0, 0);
        whoHas("like waits: the least user, not the best off", x, 0);
        x.slot(1);
        CHECK.due("user 1 waits", x.user(1, WAIT), 1);
        whoHas("the greatest wait", x, 1);
        x.slot(1);
        whoHas("the greatest wait", x, 0);
    }

    @Says(at = "Terms", value = "of both kinds to that of the greatest WAIT, of like ones the least USER")
    static void greatestWaitOfThoseThatWaited() {
        // User 3 loses all and hogs the slots; user 2 waits one slot more than users 0 and 1.
        FairBlocks x = Check.cell("C110u9101.u9909.u9101.u9119.");
        x.turn(0);
        x.turn(1);
        x.slot(1);
        x.turn(0);
        x.turn(1);
        x.slot(2);
        x.turn(3);
        int[] waits = {2, 2, 3};
        for (int user = 0; user < 3; user++) {
            CHECK.due("wait of user " + user, x.user(user, WAIT), waits[user]);
        }
        x.patience(2);
        whoHas("the greatest wait", x, 2);
        x.patience(3);
        whoHas("the only one", x, 2);
        x.turn(2);
        x.patience(2);
        whoHas("like waits: the least user, not the best off", x, 0);
        x.patience(4);
        whoHas("none waited so long: the best off", x, 1);
    }

    @Says(at = "Terms", value = "Else to that of the greatest DUE, of like ones the least USER")
    static void likeDues() {
        whoHas("2 * 3 and 3 * 2", Check.cell("C110u9302.u9203."), 0);
        whoHas("3 * 2 and 2 * 3", Check.cell("C110u9203.u9302."), 0);
        whoHas("6 and 7", Check.cell("C110u9302.u9107."), 1);
        whoHas("7 and 6", Check.cell("C110u9107.u9302."), 0);
        whoHas("five alike", Check.cell("C110" + "u9504.".repeat(5)), 0);
        whoHas("the last of five", Check.cell("C110" + "u9504.".repeat(4) + "u9507."), 4);
        FairBlocks waits = Check.cell("C110u9203.u9302.");
        waits.slot(1);
        // Users alike but for the mean: what user 0 had speaks for user 1.
        whoHas("behind a slot", waits, 1);
    }

    @Says(at = "Terms", value = "if RATE i * WEIGHT i * (MEAN j + 1) is more than RATE j * WEIGHT j * (MEAN i + 1)")
    static void dueByMeans() {
        // Mean 8 behind slot 0 of the one with rate 9: 9 * 1 to 1 * 9 are alike, whoever is the least.
        FairBlocks x = Check.cell("C110u1109.u9101.");
        x.slot(1);
        CHECK.due("mean", x.user(0, MEAN), 8);
        whoHas("9 to 9", x, 0);
        FairBlocks y = Check.cell("C110u9101.u1109.");
        y.slot(1);
        CHECK.due("mean", y.user(1, MEAN), 8);
        whoHas("9 to 9", y, 0);
        // Mean 9 by 72, 36, 18, 9: 9 * 1 to 1 * 10.
        FairBlocks z = Check.cell("C110u9109.u9101.");
        z.slot(1);
        z.turn(0);
        z.turn(1);
        z.slot(2);
        z.turn(0);
        z.turn(1);
        CHECK.due("mean", z.user(0, MEAN), 18);
        whoHas("9 to 19", z, 1);
        z.turn(0);
        z.turn(1);
        z.slot(2);
        z.turn(0);
        z.turn(1);
        CHECK.due("mean", z.user(0, MEAN), 5);
        whoHas("9 to 6", z, 0);
    }

    @Says(at = "Terms", value = "(WAIT, MEAN as they were ahead of the SLOT.)")
    static void waitAndMeanAheadOfTheSlot() {
        whoHas("the mean of user 0 is 0 in all blocks", Check.cell("C410u9101.u9101."), 0, 0, 0, 0);
        // Slot 0: user 0 (9 to 1) has both, mean 2; user 1 waits. Slot 1: its wait of 1 holds for both blocks.
        FairBlocks x = Check.cell("C241u9901.u9101.");
        x.slot(1);
        CHECK.due("mean", x.user(0, MEAN), 2);
        CHECK.due("wait", x.user(1, WAIT), 1);
        whoHas("its wait holds", x, 1, 1);
        x.patience(0);
        whoHas("by due", x, 0, 0);
    }

    @Says(at = "Terms", value = "If none MAY, nobody has it.")
    static void nobodyHasIt() {
        whoHas("no users", Check.cell("C410"), NONE, NONE, NONE, NONE);
        FairBlocks x = Check.cell("C410u9100.");
        whoHas("none may", x, NONE, NONE, NONE, NONE);
        CHECK.due("nothing is had", x.slot(1), 0);
        stands("nothing is sent", x, 0, 9, 0, 0, 1, 0, 0);
    }

    // ---- sending

    @Says(at = "Terms", value = "as much as its RATE or as there is, whichever is less; that is less by it")
    static void asMuchAsThereIs() {
        for (int queue = 1; queue <= 9; queue++) {
            FairBlocks x = Check.cell("C110u" + queue + "105.");
            CHECK.due("5 of " + queue, x.slot(1), Math.min(queue, 5));
            stands("5 of " + queue, x, 0, Math.max(queue - 5, 0));
        }
        for (int rate = 1; rate <= 9; rate++) {
            // 5 are lost in slot 0, and go again by this rate; 5 more are in the queue.
            FairBlocks x = Check.cell("C110u5115" + rate + ".");
            x.slot(1);
            x.set(0, 2, 0);
            CHECK.due(rate + " of 5 in AGAIN", x.slot(1), Math.min(rate, 5));
            stands(rate + " of 5 in AGAIN", x, 0, 5, Math.max(5 - rate, 0));
        }
    }

    @Says(at = "Terms", value = "SENT is one more.")
    static void sentCountsBlocks() {
        FairBlocks x = Check.cell("C410u9104.");
        x.slot(1);
        stands("4, 4 and 1", x, 0, 0, 0, 72, 0, 3, 9);
        FairBlocks y = Check.cell("C410u9114.");
        y.slot(1);
        stands("lost ones count, too", y, 0, 5, 4, 0, 0, 4, 0);
    }

    @Says(at = "Terms", value = "If LOSES is more than 0 and SENT by it leaves 0, it is lost")
    static void losesNoneAllOrTheNinth() {
        FairBlocks none = Check.cell("C110u1101.");
        CHECK.due("none is lost", none.slot(99), 99);
        FairBlocks all = Check.cell("C110u1111.");
        CHECK.due("all is lost", all.slot(99), 0);
        stands("all is lost", all, 0, 98, 1, 0, 0, 99, 0);
        FairBlocks ninth = Check.cell("C110u1191.");
        for (int i = 1; i <= 27; i++) {
            CHECK.due("block " + i, ninth.slot(1), i % 9 == 0 ? 0 : 1);
            CHECK.due("AGAIN behind block " + i, ninth.user(0, AGAIN), i % 9 == 0 ? 1 : 0);
        }
        CHECK.due("three are lost", ninth.user(0, GOT), 24);
    }

    @Says(at = "Terms", value = "AGAIN is more by it (also if it was of AGAIN); else GOT is.")
    static void lostOfAgain() {
        FairBlocks x = Check.cell("C110u91192.");
        x.slot(1);
        stands("9 are lost", x, 0, 0, 9, 0, 0, 1, 0);
        x.slot(1);
        stands("2 of 9 are lost", x, 0, 9, 9, 0, 0, 2, 0);
        x.slot(1);
        stands("9 of 9 are lost", x, 0, 18, 9, 0, 0, 3, 0);
    }

    // ---- means, waits, the clock

    @Says(at = "Terms", value = "MEANS: MEAN of each USER (OFF, too) is MEAN - (MEAN >> SHIFT) + (16 * g >> SHIFT), "
        + "g being what it GOT in this SLOT.")
    static void leastAndGreatestMean() {
        FairBlocks x = withQueue("C410u0109.", 999);
        int[] means = {288, 432, 504, 540, 558, 567, 572, 574, 575, 576, 576, 576};
        for (int i = 0; i < means.length; i++) {
            CHECK.due("slot " + i, x.slot(1), 36);
            CHECK.due("mean behind slot " + i, x.user(0, MEAN), means[i]);
        }
        x.turn(0);
        int[] off = {288, 144, 72, 36, 18, 9, 5, 3, 2, 1, 1, 1};
        for (int i = 0; i < off.length; i++) {
            x.slot(1);
            CHECK.due("off, mean behind slot " + i, x.user(0, MEAN), off[i]);
        }
        FairBlocks y = Check.cell("C140u1101.");
        for (int mean = 1; mean <= 15; mean++) {
            y.slot(1);
            CHECK.due("one a slot by shift 4", y.user(0, MEAN), mean);
        }
        y.slot(1);
        CHECK.due("15 - 0 + 1", y.user(0, MEAN), 16);
        y.slot(1);
        CHECK.due("16 - 1 + 1", y.user(0, MEAN), 16);
    }

    @Says(at = "Terms", value = "WAITS: WAIT of a USER that had a BLOCK in this SLOT, is OFF, or has no QUEUE and no AGAIN "
        + "(then), is 0; of others one more.")
    static void waitsThatEnd() {
        FairBlocks x = Check.cell("C110u91009.u01009.u91009.u1109.");
        x.turn(2);
        x.slot(1);
        CHECK.due("one more", x.user(0, WAIT), 1);
        CHECK.due("it has nothing", x.user(1, WAIT), 0);
        CHECK.due("it is off", x.user(2, WAIT), 0);
        CHECK.due("it had a block", x.user(3, WAIT), 0);
        x.turn(2);
        x.turn(0);
        x.slot(1);
        CHECK.due("off now", x.user(0, WAIT), 0);
        CHECK.due("had one of 9 to 1", x.user(2, WAIT), 0);
        CHECK.due("had none", x.user(3, WAIT), 1);
        x.drop(3);
        x.set(3, 0, 0);
        CHECK.due("dropped itself leaves the wait", x.user(3, WAIT), 1);
        x.slot(1);
        CHECK.due("it has nothing any more", x.user(3, WAIT), 0);
        // AGAIN alone is something to wait with.
        FairBlocks y = Check.cell("C110u11110.");
        y.slot(1);
        y.set(0, 0, 0);
        y.slot(1);
        stands("AGAIN alone", y, 0, 0, 1, 0, 1);
        // The longest there can be in a call: 99 slots.
        FairBlocks z = Check.cell("C110u1100.");
        z.slot(99);
        CHECK.due("99 slots", z.user(0, WAIT), 99);
        z.slot(99);
        CHECK.due("198 slots", z.user(0, WAIT), 198);
    }

    @Says(at = "Terms", value = "THE CLOCK is one more.")
    static void theClockGoesOn() {
        FairBlocks none = new FairBlocks();
        none.slot(1);
        CHECK.due("no users, one slot", none.count(5), 1);
        none.slot(99);
        CHECK.due("no users, 100 slots", none.count(5), 100);
        FairBlocks x = Check.cell("C410u9104.");
        x.slot(1);
        CHECK.due("four blocks, one slot", x.count(5), 1);
    }

    // ---- acts

    @Says(at = "Terms", value = "TURNED: a USER is OFF if it was not, not if it was.")
    static void turnedTwice() {
        FairBlocks x = Check.cell("C110u1101.u1101.");
        CHECK.due("off", x.turn(1), 1);
        CHECK.due("not", x.turn(1), 0);
        CHECK.due("off", x.turn(1), 1);
        CHECK.due("only that one", x.count(6), 2);
    }

    @Says(at = "Terms", value = "DROPPED: the QUEUE of a USER, and AGAIN, are 0.")
    static void droppedToNothing() {
        FairBlocks x = Check.cell("C110u9119.u1100.");
        x.slot(2);
        stands("both", x, 0, 9, 9, 0, 0, 2, 0);
        x.drop(0);
        stands("none", x, 0, 0, 0, 0, 0, 2, 0);
        stands("only that one", x, 1, 2, 0, 0, 2, 0, 0);
    }

    @Says(at = "Terms", value = "SET: of a USER COMES (what = 0), WEIGHT (1), LOSES (2) is v.")
    static void setToLeastAndMost() {
        FairBlocks x = Check.cell("C110u5555.u5555.");
        int[][] edges = {{0, 9}, {1, 9}, {0, 9}};
        for (int what = 0; what <= 2; what++) {
            for (int v : edges[what]) {
                x.set(1, what, v);
                CHECK.due("set(1, " + what + ", " + v + ")", x.user(1, what + 1), v);
            }
            CHECK.due("only that one", x.user(0, what + 1), 5);
        }
    }

    @Says(at = "Terms", value = "(never more than 14; if it has 14, the first one is forgotten ahead of the next)")
    static void fourteenActs() {
        FairBlocks x = Check.cell("C110u1101.");
        for (int i = 1; i <= 14; i++) {
            x.slot(1);
            CHECK.due("acts behind " + i, x.count(8), i);
        }
        x.slot(1);
        CHECK.due("acts behind 15", x.count(8), 14);
        for (int left = 13; left >= 0; left--) {
            CHECK.due("undo()", x.undo(), left);
            CHECK.due("the clock", x.count(5), left + 1);
        }
        CHECK.due("the first one is forgotten", x.undo(), STATE);
        CHECK.due("it stands", x.user(0, GOT), 1);
    }

    @Says(at = "Terms", value = "(never more than 14; if it has 14, the first one is forgotten ahead of the next)")
    static void fourteenActsManyTimesOver() {
        FairBlocks x = Check.cell("C110u1101.");
        for (int i = 0; i < 33; i++) {
            x.slot(1);
        }
        for (int left = 13; left >= 9; left--) {
            CHECK.due("undo()", x.undo(), left);
        }
        CHECK.due("28 slots stand", x.count(5), 28);
        for (int i = 10; i <= 20; i++) {
            x.slot(2);
            CHECK.due("acts", x.count(8), Math.min(i, 14));
        }
        CHECK.due("11 of two more", x.count(5), 50);
        for (int i = 1; i <= 14; i++) {
            CHECK.due("undo()", x.undo(), 14 - i);
            CHECK.due("the clock behind undo " + i, x.count(5), i <= 11 ? 50 - 2 * i : 28 - (i - 11));
        }
        CHECK.due("no more", x.undo(), STATE);
    }

    @Says(at = "Terms", value = "the last one can be undone")
    static void onlyTheLastIsUndone() {
        FairBlocks x = Check.cell("C115u1101.");
        x.patience(1);
        x.turn(0);
        x.patience(2);
        CHECK.due("undo()", x.undo(), 2);
        CHECK.due("patience of the first", x.count(4), 1);
        CHECK.due("turned stands", x.count(6), 1);
        CHECK.due("undo()", x.undo(), 1);
        CHECK.due("patience of the first", x.count(4), 1);
        CHECK.due("not turned", x.count(6), 0);
        CHECK.due("undo()", x.undo(), 0);
        CHECK.due("patience of the cell", x.count(4), 5);
    }

    @Says(at = "Terms", value = "Each that is not refused is an ACT.")
    static void actsThatChangeNothing() {
        FairBlocks x = Check.cell("C113u2345.");
        x.drop(0);
        CHECK.due("nothing to drop", x.count(8), 1);
        x.set(0, 0, 2);
        x.set(0, 1, 3);
        x.set(0, 2, 4);
        CHECK.due("set as it was", x.count(8), 4);
        x.patience(3);
        CHECK.due("patience as it was", x.count(8), 5);
        x.turn(0);
        x.turn(0);
        CHECK.due("turned and back", x.count(8), 7);
        x.slot(99);
        CHECK.due("99 slots are one", x.count(8), 8);
        FairBlocks none = new FairBlocks();
        none.slot(1);
        none.patience(0);
        CHECK.due("without users", none.count(8), 2);
    }

    @Says(at = "Terms", value = "Each that is not refused is an ACT.")
    static void refusedOnesAreNoActs() {
        FairBlocks x = Check.cell("C113u2345.");
        CHECK.due("slot(0)", x.slot(0), OUTSIDE);
        CHECK.due("slot(100)", x.slot(100), OUTSIDE);
        CHECK.due("turn(1)", x.turn(1), UNKNOWN);
        CHECK.due("drop(1)", x.drop(1), UNKNOWN);
        CHECK.due("set(1, 0, 0)", x.set(1, 0, 0), UNKNOWN);
        CHECK.due("set(0, 1, 0)", x.set(0, 1, 0), OUTSIDE);
        CHECK.due("patience(10)", x.patience(10), OUTSIDE);
        CHECK.due("undo()", x.undo(), STATE);
        CHECK.due("none", x.count(8), 0);
        x.keep(0);
        x.see(0, 0, 0, 0, 0);
        x.unsee();
        x.seed(1);
        x.drawn(1);
        x.write('x');
        x.wipe();
        CHECK.due("nor others", x.count(8), 0);
    }
}
