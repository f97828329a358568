/** Boundary cases that the terms name of what is asked and told: AHEAD, WHO, LONGEST, EMPTY, BEST, JUDGED. */
public final class EdgesOfAskedTest {
    private static final Check CHECK = new Check("EdgesOfAskedTest");
    private static final int OUTSIDE = FairBlocks.OUTSIDE, NONE = FairBlocks.NONE;
    private static final int QUEUE = 5, AGAIN = 6, WAIT = 8, GOT = 10;

    public static void main(String[] args) throws Exception {
        Edges.run(EdgesOfAskedTest.class, CHECK);
        CHECK.end();
    }

    private static void judged(FairBlocks x, int n, long row, int want) {
        CHECK.due("judge(" + n + ", " + row + ")", x.judge(n, row), want);
    }

    /** A doing that can be and is so, or not. */
    private static void can(FairBlocks x, int doing, boolean so) {
        judged(x, 1, doing, so ? NONE : 0);
    }

    /** A queue that is less by one in each slot, and to which nothing comes. */
    private static FairBlocks slowQueue(int queue) {
        FairBlocks x = Check.cell("C110u1101.");
        x.turn(0);
        for (int left = queue; left > 0; left -= 99) {
            x.slot(Math.min(left, 99));
        }
        x.turn(0);
        x.set(0, 0, 0);
        CHECK.due("its queue", x.user(0, QUEUE), queue);
        return x;
    }

    @Says(at = "Terms", value = "In what follows nothing is changed.")
    static void askedChangesNothing() {
        Twins twins = new Twins(CHECK);
        twins.leaves("ahead(99, 0, 5)", x -> x.ahead(99, 0, 5));
        twins.leaves("who(1)", x -> x.who(1));
        twins.leaves("longest(0, 99)", x -> x.longest(0, 99));
        twins.leaves("empty(0)", x -> x.empty(0));
        twins.leaves("best(0)", x -> x.best(0));
        twins.leaves("judge, done", x -> x.judge(4, 199201300419L));
        twins.leaves("judge, asked", x -> x.judge(4, 102600701511L));
        twins.leaves("which()", x -> x.which());
        twins.leaves("share(0, true)", x -> x.share(0, true));
        twins.leaves("fails(0, 6, 5, true)", x -> x.fails(0, 6, 5, true));
        twins.leaves("fault()", x -> x.fault());
    }

    @Says(at = "Terms", value = "AHEAD: all behind n SLOTS.")
    static void aheadOfNoneAndOf99() {
        FairBlocks x = Check.cell("C110u9125.u1101.");
        x.slot(3);
        FairBlocks y = Check.cell("C110u9125.u1101.");
        y.slot(3);
        for (int user = 0; user <= 1; user++) {
            for (int what = 5; what <= 10; what++) {
                CHECK.due("ahead(0, " + user + ", " + what + ")", x.ahead(0, user, what), y.user(user, what));
            }
        }
        y.slot(99);
        for (int user = 0; user <= 1; user++) {
            for (int what = 5; what <= 10; what++) {
                CHECK.due("ahead(99, " + user + ", " + what + ")", x.ahead(99, user, what), y.user(user, what));
            }
        }
        CHECK.due("the queue ahead is 999 at most", slowQueue(999).ahead(0, 0, QUEUE), 999);
    }

    @Says(at = "Terms", value = "WHO has a BLOCK of the next SLOT.")
    static void whoOfTheNextSlot() {
        FairBlocks x = Check.cell("C110u910900.u910090.u910009.");
        for (int clock = 0; clock < 7; clock++) {
            CHECK.due("slot " + clock, x.who(0), clock % 3);
            x.slot(1);
        }
    }

    @Says(at = "Terms", value = "LONGEST of a USER: the greatest WAIT that it has behind 1, 2, .., n SLOTS.")
    static void longestUpToTheLastSlot() {
        // It waits in five of six slots.
        FairBlocks x = Check.cell("C110u910000009.u9100.");
        int[] want = {1, 2, 3, 4, 5, 5, 5};
        for (int n = 1; n <= want.length; n++) {
            CHECK.due("longest(0, " + n + ")", x.longest(0, n), want[n - 1]);
        }
        CHECK.due("longest(0, 99)", x.longest(0, 99), 5);
        CHECK.due("the last of 99 counts", x.longest(1, 99), 99);
        CHECK.due("the first of one counts", x.longest(1, 1), 1);
    }

    @Says(at = "Terms", value = "EMPTY: the least n (0 to 60) behind which a USER has no QUEUE and no AGAIN; NONE.")
    static void emptyBehindNoneTo60() {
        for (int queue = 0; queue <= 3; queue++) {
            CHECK.due("empty with " + queue, slowQueue(queue).empty(0), queue);
        }
        CHECK.due("empty with 59", slowQueue(59).empty(0), 59);
        CHECK.due("empty with 60", slowQueue(60).empty(0), 60);
        CHECK.due("empty with 61", slowQueue(61).empty(0), NONE);
        CHECK.due("empty with 999", slowQueue(999).empty(0), NONE);
    }

    @Says(at = "Terms", value = "EMPTY: the least n (0 to 60) behind which a USER has no QUEUE and no AGAIN; NONE.")
    static void notEmptyWithAgainAlone() {
        FairBlocks x = Check.cell("C110u1111.");
        x.slot(1);
        x.set(0, 0, 0);
        CHECK.due("its queue", x.user(0, QUEUE), 0);
        CHECK.due("AGAIN", x.user(0, AGAIN), 1);
        CHECK.due("lost for ever", x.empty(0), NONE);
        x.set(0, 2, 0);
        CHECK.due("lost no more", x.empty(0), 1);
        // The least of several: nothing waits behind each slot.
        CHECK.due("the least", Check.cell("C110u1101.").empty(0), 0);
        FairBlocks y = Check.cell("C110u110019.");
        y.slot(1);
        CHECK.due("behind slot 2 and each third", y.empty(0), 2);
    }

    /** The weight from 1 on by which the least of what is had is most, by set() and ahead(). */
    private static int bestBy(FairBlocks x, int user, int slots) {
        int best = 0;
        int most = -1;
        for (int weight = 1; weight <= 9; weight++) {
            x.set(user, 1, weight);
            int least = 9999;
            for (int i = 0; i < x.count(1); i++) {
                least = Math.min(least, x.ahead(slots, i, GOT) - x.user(i, GOT));
            }
            x.undo();
            if (least > most) {
                most = least;
                best = weight;
            }
        }
        return best;
    }

    @Says(at = "Terms", value = "so that behind 30 SLOTS the least of what USERS (OFF, too) GOT from now on is most")
    static void bestBehindThirty() {
        String[] cells = {"C120u95054.u92041.", "C110u9405.u94072.", "C130u9205.u9102.", "C140u98028.u91078."};
        int[] best = {7, 3, 5, 8};
        for (int i = 0; i < cells.length; i++) {
            FairBlocks x = Check.cell(cells[i]);
            CHECK.due(cells[i] + " best(1)", x.best(1), best[i]);
            CHECK.due(cells[i] + " by set and ahead(30)", bestBy(x, 1, 30), best[i]);
            CHECK.holds(cells[i] + " is otherwise behind 29", bestBy(x, 1, 29) != best[i]);
            CHECK.holds(cells[i] + " is otherwise behind 31", bestBy(x, 1, 31) != best[i]);
        }
    }

    @Says(at = "Terms", value = "BEST for a USER: the WEIGHT (1 to 9) that it should have from now on")
    static void bestIsOneToNine() {
        FairBlocks nine = Check.cell("C120u9505.u9201.");
        CHECK.due("the most", nine.best(1), 9);
        CHECK.due("the most, by set and ahead", bestBy(nine, 1, 30), 9);
        FairBlocks one = Check.cell("C110u9105.u9105.");
        CHECK.due("the least", one.best(0), 1);
    }

    @Says(at = "Terms", value = "of what USERS (OFF, too) GOT from now on is most")
    static void bestCountsFromNowOn() {
        // With what was had in 7 and 20 slots counted, it would be 1 and 8.
        FairBlocks x = Check.cell("C140u9502.u9609.");
        x.slot(7);
        CHECK.due("C140u9502.u9609. behind 7", x.best(1), 2);
        FairBlocks y = Check.cell("C140u9405.u9509.");
        y.slot(20);
        CHECK.due("C140u9405.u9509. behind 20", y.best(0), 7);
    }

    @Says(at = "Terms", value = "of what USERS (OFF, too) GOT from now on is most")
    static void bestCountsThoseThatAreOff() {
        FairBlocks x = Check.cell("C120u9505.u9201.u9505.");
        x.turn(2);
        CHECK.due("one is off and has nothing by any weight", x.best(1), 1);
        x.turn(2);
        x.turn(1);
        CHECK.due("it is off itself", x.best(1), 1);
    }

    @Says(at = "Terms", value = "of like ones the least WEIGHT.")
    static void bestOfLikeOnesTheLeast() {
        CHECK.due("alone", Check.cell("C110u3905.").best(0), 1);
        CHECK.due("nobody has anything", Check.cell("C110u9500.u9500.").best(1), 1);
        // The least is 51, 74 by weights 1 and 2, and 75 by all others; then 40 by 5 to 7, and less by others.
        CHECK.due("alike up to 9", Check.cell("C110u9405.u94072.").best(1), 3);
        CHECK.due("alike from 5 to 7", Check.cell("C130u9205.u9102.").best(1), 5);
    }

    // ---- judged

    /** Slot 0: user 1 (6 to 5) has both blocks and 3 left; user 0 waits 1, with 9. */
    private static FairBlocks court() {
        FairBlocks x = Check.cell("C210u9105.u9203.");
        x.slot(1);
        return x;
    }

    @Says(at = "Terms", value = "JUDGED: n doings (1 to 4), told as three figures each")
    static void oneToFourDoings() {
        FairBlocks x = court();
        judged(x, 0, 0, OUTSIDE);
        judged(x, 1, 101, NONE);
        judged(x, 2, 101101, NONE);
        judged(x, 3, 101101101, NONE);
        judged(x, 4, 101101101101L, NONE);
        judged(x, 5, 101101101101L, OUTSIDE);
    }

    @Says(at = "Terms", value = "(the first one's are the highest of row)")
    static void theFirstIsTheHighest() {
        FairBlocks x = court();
        judged(x, 2, 300700, NONE);
        judged(x, 2, 700300, 0);
        // A row of fewer figures begins with noughts, which are no doing.
        judged(x, 2, 101, 0);
        judged(x, 4, 101101101, 0);
        judged(x, 1, 0, 0);
        judged(x, 1, 1, 0);
        judged(x, 1, 99, 0);
    }

    @Says(at = "Terms", value = "(1, two figures n: SLOTS, 1 to 99;")
    static void doingOne() {
        FairBlocks x = court();
        can(x, 100, false);
        can(x, 101, true);
        can(x, 109, true);
        can(x, 110, true);
        can(x, 199, true);
        // One of whom it is known how long it waits behind n slots.
        FairBlocks y = Check.cell("C110u9100.");
        judged(y, 2, 101501, NONE);
        judged(y, 2, 109509, NONE);
        judged(y, 3, 101108509, NONE);
        judged(y, 3, 199701500, 2);
        // One whose only rate of six, or of five, is in the slot behind n of them.
        FairBlocks six = Check.cell("C110u910000100.");
        FairBlocks five = Check.cell("C110u91000001.");
        for (int n = 1; n <= 99; n++) {
            judged(six, 2, 100600 + 1000 * n, n % 6 == 3 ? NONE : 1);
            judged(five, 2, 100600 + 1000 * n, n % 5 == 4 ? NONE : 1);
        }
    }

    @Says(at = "Terms", value = "2, 0, a USER: TURNED;")
    static void doingTwo() {
        FairBlocks x = court();
        can(x, 200, true);
        can(x, 201, true);
        can(x, 202, false);
        can(x, 205, false);
        can(x, 209, false);
        can(x, 210, false);
        can(x, 290, false);
        judged(x, 2, 200600, 1);
        judged(x, 3, 200200600, NONE);
        can(Check.cell("C110" + "u1101.".repeat(5)), 204, true);
        can(Check.cell("C110" + "u1101.".repeat(5)), 205, false);
        can(new FairBlocks(), 200, false);
    }

    @Says(at = "Terms", value = "3, 0, a USER: DROPPED;")
    static void doingThree() {
        FairBlocks x = court();
        can(x, 300, true);
        can(x, 301, true);
        can(x, 302, false);
        can(x, 309, false);
        can(x, 310, false);
        judged(x, 2, 301710, NONE);
        judged(x, 2, 300710, 1);
        judged(x, 3, 301301710, NONE);
        can(new FairBlocks(), 300, false);
    }

    @Says(at = "Terms", value = "4, a USER, v: its WEIGHT is told, v 1 to 9;")
    static void doingFour() {
        FairBlocks x = Check.cell("C110u9103.u9203.");
        can(x, 400, false);
        can(x, 401, true);
        can(x, 409, true);
        can(x, 410, false);
        can(x, 419, true);
        can(x, 421, false);
        can(x, 491, false);
        judged(x, 2, 402600, NONE);
        judged(x, 2, 401600, 1);
        judged(x, 2, 411600, NONE);
        can(new FairBlocks(), 401, false);
    }

    @Says(at = "Terms", value = "5, a USER, v: its WAIT is v;")
    static void doingFive() {
        FairBlocks x = court();
        can(x, 500, false);
        can(x, 501, true);
        can(x, 502, false);
        can(x, 510, true);
        can(x, 511, false);
        can(x, 520, false);
        FairBlocks y = Check.cell("C110u9100.");
        y.slot(9);
        can(y, 509, true);
        can(y, 508, false);
        y.slot(1);
        // A wait of 10 can not be told.
        for (int v = 0; v <= 9; v++) {
            can(y, 500 + v, false);
        }
        can(new FairBlocks(), 500, false);
    }

    @Says(at = "Terms", value = "6, a USER, a BLOCK: it has that BLOCK of the next SLOT;")
    static void doingSix() {
        FairBlocks x = court();
        can(x, 600, true);
        can(x, 601, true);
        can(x, 602, false);
        can(x, 609, false);
        can(x, 610, false);
        can(x, 611, false);
        can(x, 620, false);
        FairBlocks y = Check.cell("C410u5105.u9202.");
        can(y, 600, true);
        can(y, 601, false);
        can(y, 611, true);
        can(y, 613, true);
        can(y, 614, false);
        y.turn(1);
        // Nobody has block 1 then, whoever is named.
        can(y, 601, false);
        can(y, 611, false);
        can(y, 691, false);
        can(new FairBlocks(), 600, false);
    }

    @Says(at = "Terms", value = "7, a USER, 1 or 0: it has a QUEUE or AGAIN, or neither)")
    static void doingSeven() {
        FairBlocks x = Check.cell("C110u9105.u0105.u1111.");
        x.turn(0);
        x.slot(1);
        x.set(2, 0, 0);
        CHECK.due("AGAIN alone", 10 * x.user(2, QUEUE) + x.user(2, AGAIN), 1);
        can(x, 700, false);
        can(x, 701, true);
        can(x, 702, false);
        can(x, 709, false);
        can(x, 710, true);
        can(x, 711, false);
        can(x, 712, false);
        can(x, 720, false);
        can(x, 721, true);
        can(x, 730, false);
        can(x, 731, false);
        can(new FairBlocks(), 700, false);
    }

    @Says(at = "Terms", value = "the place of the first that can not be (or is not so); NONE: none.")
    static void theFirstThatCanNotBe() {
        FairBlocks x = court();
        for (int kind : new int[] {0, 8, 9}) {
            can(x, 100 * kind, false);
            can(x, 100 * kind + 1, false);
        }
        judged(x, 4, 900101101101L, 0);
        judged(x, 4, 101900101101L, 1);
        judged(x, 4, 101101900101L, 2);
        judged(x, 4, 101101101900L, 3);
        judged(x, 4, 900900900900L, 0);
        judged(x, 4, 101900900900L, 1);
        judged(x, 4, 501500900900L, 1);
        judged(x, 4, 101101101101L, NONE);
    }

    @Says(at = "Terms", value = "1 to 4 are done, from then on; 5 to 7 are asked as it is then.")
    static void doneFromThenOn() {
        FairBlocks x = court();
        judged(x, 4, 501101501700L, 2);
        judged(x, 4, 501101500701L, NONE);
        judged(x, 4, 600600601501L, NONE);
        judged(x, 4, 300700101700L, NONE);
        // The next judge begins as it stands.
        judged(x, 2, 300700, NONE);
        judged(x, 1, 701, NONE);
        CHECK.due("its wait", x.user(0, WAIT), 1);
    }

    // ---- more plainly

    @Says(at = "Terms", value = "where nobody has a BLOCK between, those that had one ahead have none more in it")
    static void nobodyBetween() {
        FairBlocks x = Check.cell("C410u5105.u3103.");
        int[] want = {0, 1, NONE, NONE};
        for (int block = 0; block < 4; block++) {
            CHECK.due("who(" + block + ")", x.who(block), want[block]);
        }
    }

    @Says(at = "Terms", value = "LOSES counts all that a USER SENT, in SLOTS ahead, too")
    static void losesCountsAll() {
        FairBlocks x = Check.cell("C110u1101.");
        x.slot(5);
        x.set(0, 2, 3);
        CHECK.due("the sixth of all is lost", x.slot(1), 0);
        CHECK.due("the seventh is not", x.slot(1), 1);
        FairBlocks y = Check.cell("C110u1121.");
        y.slot(1);
        y.set(0, 2, 0);
        y.slot(2);
        y.set(0, 2, 2);
        CHECK.due("the fourth is lost", y.slot(1), 0);
    }

    @Says(at = "Terms", value = "a BLOCK in which it is lost is one that it had (WAIT)")
    static void aLostBlockEndsTheWait() {
        FairBlocks x = Check.cell("C110u11101.");
        x.slot(1);
        CHECK.due("rate 0", x.user(0, WAIT), 1);
        x.set(0, 2, 1);
        CHECK.due("lost", x.slot(1), 0);
        CHECK.due("its wait", x.user(0, WAIT), 0);
    }

    @Says(at = "Terms", value = "SET is felt from the next SLOT on.")
    static void setIsFeltFromTheNextSlotOn() {
        FairBlocks x = Check.cell("C110u0101.u0101.");
        x.set(0, 0, 9);
        x.set(1, 0, 9);
        CHECK.due("nothing came yet", x.count(7), 0);
        CHECK.due("like ones", x.who(0), 0);
        x.set(1, 1, 2);
        CHECK.due("the weight in the next slot", x.who(0), 1);
        x.set(1, 2, 1);
        CHECK.due("nothing is lost yet", x.user(1, AGAIN), 0);
        x.slot(1);
        CHECK.due("lost in the next slot", x.user(1, AGAIN), 1);
        CHECK.due("came in the next slot", x.user(0, QUEUE), 9);
    }

    @Says(at = "Terms", value = "EMPTY is 0 as it stands ahead of any COMING.")
    static void emptyAheadOfAnyComing() {
        FairBlocks x = Check.cell("C110u9100.");
        CHECK.due("nothing came yet", x.empty(0), 0);
        x.slot(1);
        CHECK.due("never again", x.empty(0), NONE);
        x.drop(0);
        CHECK.due("dropped", x.empty(0), 0);
    }

    @Says(at = "Terms", value = "LONGEST does not look at WAIT as it stands now.")
    static void longestDoesNotLookAtNow() {
        FairBlocks x = Check.cell("C110u9100000.");
        x.slot(50);
        CHECK.due("its wait", x.user(0, WAIT), 50);
        x.turn(0);
        CHECK.due("off: it is left by turned", x.user(0, WAIT), 50);
        CHECK.due("off: behind one slot", x.longest(0, 1), 0);
        CHECK.due("off: behind 99", x.longest(0, 99), 0);
        x.turn(0);
        CHECK.due("on: behind one slot", x.longest(0, 1), 51);
    }

    @Says(at = "Terms", value = "what was lost in a BLOCK may go again in the next BLOCK of the same SLOT, "
        + "if the USER MAY have that")
    static void lostGoesAgainInTheSameSlot() {
        // 5 are sent, 4 lost, 4 sent.
        FairBlocks x = Check.cell("C310u9125.");
        CHECK.due("all", x.slot(1), 9);
        CHECK.due("AGAIN", x.user(0, AGAIN), 0);
        CHECK.due("three blocks", x.user(0, 9), 3);
        // In the last block there is no next one.
        FairBlocks y = Check.cell("C210u9125.");
        CHECK.due("all but 4", y.slot(1), 5);
        CHECK.due("AGAIN", y.user(0, AGAIN), 4);
    }

    @Says(at = "Terms", value = "AGAIN and of its QUEUE nothing goes in one BLOCK together.")
    static void againGoesAlone() {
        FairBlocks x = Check.cell("C110u91119.");
        x.slot(1);
        CHECK.due("AGAIN", x.user(0, AGAIN), 1);
        x.set(0, 2, 0);
        CHECK.due("one of nine that could go", x.slot(1), 1);
        CHECK.due("the queue", x.user(0, QUEUE), 17);
    }

    @Says(at = "Terms", value = "A USER with WAIT 0 is not passed over by PATIENCE 0 (none is looked at then).")
    static void patienceNothing() {
        FairBlocks x = Check.cell("C110u9909.u9101.u9119.");
        x.turn(0);
        x.slot(50);
        x.turn(0);
        x.turn(2);
        CHECK.due("wait of user 0", x.user(0, WAIT), 0);
        CHECK.due("wait of user 1", x.user(1, WAIT), 50);
        CHECK.due("the best off", x.who(0), 0);
    }

    @Says(at = "Terms", value = "BLOCKS of a USER in a SLOT are one beside the other.")
    static void blocksAreOneBesideTheOther() {
        String[] cells = {"C410u9123.u5909.", "C430u9119.u9939.u1101.u2102.u4505.", "C421u9132.u8221.u7415.",
            "C412u9125.u39041.u5109."};
        for (String cell : cells) {
            FairBlocks x = Check.cell(cell);
            for (int clock = 0; clock < 40; clock++) {
                int ended = 0;
                for (int block = 0; block < 4; block++) {
                    int one = x.who(block);
                    int bit = one < 0 ? 32 : 1 << one;
                    CHECK.holds(cell + " slot " + clock + " block " + block, (ended & bit) == 0);
                    if (block < 3 && x.who(block + 1) != one) {
                        ended |= bit;
                    }
                }
                x.slot(1);
            }
        }
    }

    @Says(at = "Terms", value = "WHO, JUDGED 6 are by the next SLOT with its COMING.")
    static void whoWithItsComing() {
        FairBlocks x = Check.cell("C210u9105.");
        CHECK.due("nothing is there yet", x.user(0, QUEUE), 0);
        CHECK.due("who(1)", x.who(1), 0);
        judged(x, 1, 601, NONE);
        judged(x, 3, 700601700, NONE);
        x.set(0, 0, 5);
        CHECK.due("five come: who(1)", x.who(1), NONE);
        judged(x, 1, 601, 0);
    }

    @Says(at = "Terms", value = "WAIT of one that is OFF is 0 behind each SLOT; TURNED itself leaves it.")
    static void turnedLeavesTheWait() {
        FairBlocks x = Check.cell("C110u9100.");
        x.slot(7);
        x.turn(0);
        CHECK.due("turned off", x.user(0, WAIT), 7);
        x.turn(0);
        CHECK.due("turned on", x.user(0, WAIT), 7);
        x.turn(0);
        for (int i = 0; i < 3; i++) {
            x.slot(1);
            CHECK.due("off behind a slot", x.user(0, WAIT), 0);
        }
        x.turn(0);
        x.slot(1);
        CHECK.due("on behind a slot", x.user(0, WAIT), 1);
    }
}
