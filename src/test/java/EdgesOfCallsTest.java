import java.util.function.IntUnaryOperator;

/** Boundary cases that the promises name: each call by its least and greatest arguments, and by those next to them. */
public final class EdgesOfCallsTest {
    private static final Check CHECK = new Check("EdgesOfCallsTest");
    private static final int UNKNOWN = FairBlocks.UNKNOWN, OUTSIDE = FairBlocks.OUTSIDE, STATE = FairBlocks.STATE;
    private static final int FULL = FairBlocks.FULL, NONE = FairBlocks.NONE;
    private static final int LEAST = Integer.MIN_VALUE, MOST = Integer.MAX_VALUE;
    private static final int QUEUE = 5, AGAIN = 6, GOT = 10;

    public static void main(String[] args) throws Exception {
        Edges.run(EdgesOfCallsTest.class, CHECK);
        Edges.allPromises(EdgesOfCallsTest.class, CHECK);
        CHECK.end();
    }

    /** The call takes just the numbers from least to most; others it refuses so. */
    private static void takes(String call, int least, int most, int refusal, IntUnaryOperator answer) {
        CHECK.due(call + " of " + (least - 1), answer.applyAsInt(least - 1), refusal);
        CHECK.due(call + " of " + (most + 1), answer.applyAsInt(most + 1), refusal);
        CHECK.due(call + " of the least int", answer.applyAsInt(LEAST), refusal);
        CHECK.due(call + " of the greatest int", answer.applyAsInt(MOST), refusal);
        for (int v : new int[] {least, most}) {
            int got = answer.applyAsInt(v);
            CHECK.holds(call + " of " + v + " is taken, and not " + got, got >= 0 || got == NONE);
        }
    }

    private static FairBlocks one() {
        return Check.cell("C110u3105.");
    }

    // ---- the cell

    @Says(at = "Promise 1", value = "One block, no users.")
    static void aNewObject() {
        FairBlocks x = new FairBlocks();
        int[] counts = {0, 0, 1, 1, 0, 0, 0, 0, 0, 0};
        for (int what = 0; what < counts.length; what++) {
            CHECK.due("count(" + what + ")", x.count(what), counts[what]);
        }
        CHECK.due("who(0)", x.who(0), NONE);
        CHECK.due("who(1)", x.who(1), OUTSIDE);
        CHECK.due("user(0, 0)", x.user(0, 0), UNKNOWN);
        CHECK.due("which()", x.which(), 0);
        CHECK.due("undo()", x.undo(), STATE);
        CHECK.due("again(0)", x.again(0), STATE);
        CHECK.due("again(1)", x.again(1), STATE);
        CHECK.due("cell()", x.cell(), STATE);
        CHECK.due("unsee()", x.unsee(), 0);
        CHECK.due("wipe()", x.wipe(), 0);
        CHECK.due("slot(1)", x.slot(1), 0);
        CHECK.due("judge(1, 101)", x.judge(1, 101), NONE);
    }

    @Says(at = "Promise 2", value = "A letter (0 to 255) comes behind THE TEXT: how long it is. OUTSIDE;")
    static void aLetterToWrite() {
        FairBlocks x = new FairBlocks();
        takes("write", 0, 255, OUTSIDE, x::write);
        CHECK.due("two were written", x.count(0), 2);
        // No other number is taken for the letter that it has in its lowest bits.
        FairBlocks y = new FairBlocks();
        CHECK.due("write('C' + 256)", y.write('C' + 256), OUTSIDE);
        CHECK.due("write('C' - 256)", y.write('C' - 256), OUTSIDE);
        CHECK.due("write('C' + 128)", y.write('C' + 128), 1);
        CHECK.due("that is no C", y.fault(), 0);
        CHECK.due("all behind it", y.write('C'), 2);
        CHECK.due("the first stays", y.fault(), 0);
    }

    @Says(at = "Promise 2", value = "FULL: there are 80.")
    static void theEightyFirstLetter() {
        FairBlocks x = new FairBlocks();
        for (int i = 1; i <= 80; i++) {
            CHECK.due("letter " + i, x.write('u'), i);
        }
        CHECK.due("letter 81", x.write('u'), FULL);
        CHECK.due("letter 81, outside", x.write(-1), OUTSIDE);
        CHECK.due("there are 80", x.count(0), 80);
        CHECK.due("wipe()", x.wipe(), 80);
        CHECK.due("the first again", x.write('u'), 1);
    }

    @Says(at = "Promise 3", value = "THE TEXT is empty: how long it was.")
    static void wipedToNothing() {
        FairBlocks x = Check.cell("C110u3105.");
        CHECK.due("ten", x.wipe(), 10);
        CHECK.due("none", x.wipe(), 0);
        CHECK.due("count(0)", x.count(0), 0);
        CHECK.due("fault()", x.fault(), 0);
        CHECK.due("the cell stays", x.count(1), 1);
        // Of what was wiped nothing is read any more.
        Check.write(x, "C1");
        CHECK.due("fault() of C1", x.fault(), 2);
        CHECK.due("cell() of C1", x.cell(), STATE);
    }

    @Says(at = "Promise 4", value = "FAULT; NONE.")
    static void faultOfNoneAndOfAFullText() {
        FairBlocks x = new FairBlocks();
        CHECK.due("of no letter", x.fault(), 0);
        Check.write(x, "C110");
        CHECK.due("of a cell", x.fault(), NONE);
        CHECK.due("asked again", x.fault(), NONE);
        Check.write(x, "u1111.".repeat(12) + "u111");
        CHECK.due("80 letters", x.count(0), 80);
        CHECK.due("the sixth u of 80 letters", x.fault(), 34);
        x.wipe();
        Check.write(x, "C110" + "u111111111.".repeat(5));
        CHECK.due("the longest cell", x.fault(), NONE);
        x.write('.');
        CHECK.due("one letter more", x.fault(), 59);
    }

    @Says(at = "Promise 5", value = "how many USERS. STATE: a FAULT.")
    static void cellsOfNoneToFiveUsers() {
        FairBlocks x = new FairBlocks();
        for (int many = 0; many <= 5; many++) {
            x.wipe();
            Check.write(x, "C110" + "u1111.".repeat(many));
            CHECK.due("users", x.cell(), many);
        }
        x.write('u');
        CHECK.due("a sixth u", x.cell(), STATE);
        CHECK.due("the cell stays", x.count(1), 5);
        x.wipe();
        CHECK.due("no text", x.cell(), STATE);
        CHECK.due("the cell stays", x.count(1), 5);
        Check.write(x, "C11");
        CHECK.due("only not at its end", x.cell(), STATE);
        x.write('0');
        CHECK.due("no users", x.cell(), 0);
    }

    @Says(at = "Promise 5", value = "THE TEXT (that stays as it is) is THE CELL (all of USERS as at first, THE CLOCK 0; "
        + "THE ROW of ACTS is empty, what was kept is gone; SEEN, THE SEED stay)")
    static void aCellBeginsAnew() {
        FairBlocks x = Check.cell("C211u9115.u3209.");
        x.slot(7);
        x.turn(1);
        x.set(0, 0, 1);
        x.patience(9);
        x.keep(0);
        x.keep(1);
        x.see(1, 0, 0, 1, 1);
        x.seed(77);
        CHECK.due("cell()", x.cell(), 2);
        CHECK.due("the text", x.count(0), 16);
        CHECK.due("the same cell once more", x.cell(), 2);
        CHECK.due("undo()", x.undo(), STATE);
        CHECK.due("again(0)", x.again(0), STATE);
        CHECK.due("again(1)", x.again(1), STATE);
        CHECK.due("unsee()", x.unsee(), 1);
        CHECK.due("seed(0)", x.seed(0), 77);
        CHECK.holds("all is as at first", Check.standing(x).equals(Check.standing(Check.cell("C211u9115.u3209."))));
    }

    @Says(at = "Promise 5", value = "STATE: a FAULT.")
    static void aFaultLeavesAll() {
        FairBlocks x = Check.cell("C211u9115.u3209.");
        x.slot(7);
        x.keep(1);
        x.write('x');
        CHECK.due("cell()", x.cell(), STATE);
        CHECK.due("the clock", x.count(5), 7);
        CHECK.due("acts", x.count(8), 1);
        CHECK.due("undo()", x.undo(), 0);
        CHECK.due("what was kept", x.again(1), 7);
    }

    @Says(at = "Promise 6", value = "UNKNOWN; OUTSIDE.")
    static void whatOfAUser() {
        FairBlocks x = one();
        takes("what of user", 0, 10, OUTSIDE, v -> x.user(0, v));
        takes("user of user", 0, 0, UNKNOWN, v -> x.user(v, 0));
        takes("user of user, outside", 0, 0, UNKNOWN, v -> v == 0 ? 0 : x.user(v, 11));
    }

    @Says(at = "Promise 6", value = "Of a USER its RATE in the next SLOT (what = 0)")
    static void theRateInTheNextSlot() {
        FairBlocks x = Check.cell("C110u310123.u3109.");
        int[] rates = {1, 2, 3, 1};
        for (int clock = 0; clock < rates.length; clock++) {
            CHECK.due("slot " + clock, x.user(0, 0), rates[clock]);
            CHECK.due("the only one", x.user(1, 0), 9);
            x.slot(1);
        }
        x.undo();
        x.undo();
        CHECK.due("undone", x.user(0, 0), 3);
        x.turn(0);
        CHECK.due("off, too", x.user(0, 0), 3);
    }

    @Says(at = "Promise 6", value = "1 if it is OFF, 0 (4)")
    static void offAsOneOrNothing() {
        FairBlocks x = Check.cell("C110u3105.u3105.");
        CHECK.due("not off", x.user(1, 4), 0);
        x.turn(1);
        CHECK.due("off", x.user(1, 4), 1);
        CHECK.due("the other one", x.user(0, 4), 0);
        x.turn(1);
        CHECK.due("not off any more", x.user(1, 4), 0);
    }

    // ---- acts

    @Says(at = "Promise 7", value = "OUTSIDE: n (1 to 99).")
    static void oneTo99Slots() {
        FairBlocks x = one();
        takes("slot", 1, 99, OUTSIDE, x::slot);
        CHECK.due("100 slots", x.count(5), 100);
        CHECK.due("two acts", x.count(8), 2);
    }

    @Says(at = "Promise 7", value = "SLOTS: what all GOT in them.")
    static void whatAllGot() {
        CHECK.due("no users", new FairBlocks().slot(99), 0);
        CHECK.due("nothing", Check.cell("C110u9100.").slot(99), 0);
        FairBlocks x = Check.cell("C210u2109.u3109.");
        CHECK.due("both", x.slot(1), 5);
        CHECK.due("not what was had ahead", x.slot(1), 5);
        CHECK.due("99 slots", x.slot(99), 495);
        // The most there can be: four blocks of nine from a full queue, 27 times, then nine a slot.
        FairBlocks y = Check.cell("C410u9109.");
        y.turn(0);
        y.slot(99);
        y.slot(99);
        y.turn(0);
        CHECK.due("full", y.user(0, QUEUE), 999);
        CHECK.due("999 and 98 times 9", y.slot(99), 1881);
        CHECK.due("all", y.user(0, QUEUE), 0);
    }

    @Says(at = "Promise 8", value = "TURNED: 1 if it is OFF then, 0. UNKNOWN.")
    static void turnedOffAndOn() {
        FairBlocks x = one();
        CHECK.due("turn(-1)", x.turn(-1), UNKNOWN);
        CHECK.due("turn(1)", x.turn(1), UNKNOWN);
        CHECK.due("turn(most)", x.turn(MOST), UNKNOWN);
        CHECK.due("turn(least)", x.turn(LEAST), UNKNOWN);
        CHECK.due("turn(0)", x.turn(0), 1);
        CHECK.due("turn(0)", x.turn(0), 0);
        CHECK.due("turn(0) of no users", new FairBlocks().turn(0), UNKNOWN);
    }

    @Says(at = "Promise 9", value = "DROPPED: how much that was. UNKNOWN.")
    static void nothingAndTheMostDropped() {
        FairBlocks x = Check.cell("C110u9119.");
        CHECK.due("nothing", x.drop(0), 0);
        x.slot(1);
        CHECK.due("AGAIN alone", x.drop(0), 9);
        x.undo();
        x.turn(0);
        x.slot(99);
        x.slot(99);
        CHECK.due("999", x.user(0, QUEUE), 999);
        CHECK.due("999 and 9", x.drop(0), 1008);
        CHECK.due("nothing any more", x.drop(0), 0);
        CHECK.due("drop(-1)", x.drop(-1), UNKNOWN);
        CHECK.due("drop(1)", x.drop(1), UNKNOWN);
        CHECK.due("drop(most)", x.drop(MOST), UNKNOWN);
    }

    @Says(at = "Promise 10", value = "UNKNOWN; OUTSIDE: what (0 to 2), v (0 to 9; WEIGHT 1 to 9).")
    static void whatAndVOfSet() {
        FairBlocks x = one();
        takes("what of set", 0, 2, OUTSIDE, v -> x.set(0, v, 1));
        takes("comes", 0, 9, OUTSIDE, v -> x.set(0, 0, v));
        takes("weight", 1, 9, OUTSIDE, v -> x.set(0, 1, v));
        takes("loses", 0, 9, OUTSIDE, v -> x.set(0, 2, v));
        takes("user of set", 0, 0, UNKNOWN, v -> x.set(v, 0, 0));
        CHECK.due("what and v wrong", x.set(0, 3, 10), OUTSIDE);
        CHECK.due("user, what and v wrong", x.set(1, 3, 10), UNKNOWN);
    }

    @Says(at = "Promise 10", value = "SET: what it was.")
    static void whatItWas() {
        FairBlocks x = Check.cell("C110u0909.");
        CHECK.due("comes", x.set(0, 0, 9), 0);
        CHECK.due("comes", x.set(0, 0, 9), 9);
        CHECK.due("weight", x.set(0, 1, 1), 9);
        CHECK.due("weight", x.set(0, 1, 9), 1);
        CHECK.due("loses", x.set(0, 2, 9), 0);
        CHECK.due("loses", x.set(0, 2, 0), 9);
    }

    @Says(at = "Promise 11", value = "PATIENCE is v: what it was. OUTSIDE: v (0 to 9).")
    static void noneToNinePatience() {
        FairBlocks x = new FairBlocks();
        takes("patience", 0, 9, OUTSIDE, x::patience);
        CHECK.due("the last that was taken", x.patience(0), 9);
        CHECK.due("the one ahead", x.patience(5), 0);
        CHECK.due("three and one", x.count(8), 4);
    }

    @Says(at = "Promise 12", value = "The last ACT is undone: how many are left. STATE: there is none.")
    static void undoneToNone() {
        FairBlocks x = one();
        CHECK.due("none", x.undo(), STATE);
        for (int i = 0; i < 14; i++) {
            x.slot(1);
        }
        for (int left = 13; left >= 0; left--) {
            CHECK.due("left", x.undo(), left);
        }
        CHECK.due("none is left", x.undo(), STATE);
        CHECK.due("the clock", x.count(5), 0);
        x.slot(1);
        CHECK.due("one", x.undo(), 0);
        CHECK.due("none is left", x.undo(), STATE);
    }

    // ---- asked

    @Says(at = "Promise 13", value = "UNKNOWN; OUTSIDE: n (0 to 99), what (5 to 10).")
    static void argumentsOfAhead() {
        FairBlocks x = one();
        takes("n of ahead", 0, 99, OUTSIDE, v -> x.ahead(v, 0, 5));
        takes("what of ahead", 5, 10, OUTSIDE, v -> x.ahead(0, 0, v));
        takes("user of ahead", 0, 0, UNKNOWN, v -> x.ahead(0, v, 5));
        CHECK.due("n and what wrong", x.ahead(100, 0, 4), OUTSIDE);
        CHECK.due("all wrong", x.ahead(100, 1, 4), UNKNOWN);
    }

    @Says(at = "Promise 14", value = "WHO; NONE: nobody. OUTSIDE: block (0 to B less 1).")
    static void blocksOfWho() {
        for (int b = 1; b <= 4; b++) {
            FairBlocks x = Check.cell("C" + b + "10u9101.");
            takes("who of " + b, 0, b - 1, OUTSIDE, x::who);
            for (int block = 0; block < b; block++) {
                CHECK.due("who(" + block + ")", x.who(block), 0);
            }
            x.turn(0);
            for (int block = 0; block < b; block++) {
                CHECK.due("nobody: who(" + block + ")", x.who(block), NONE);
            }
            CHECK.due("no such block, nobody", x.who(b), OUTSIDE);
        }
        CHECK.due("the last of five", Check.cell("C110" + "u0101.".repeat(4) + "u1101.").who(0), 4);
    }

    @Says(at = "Promise 15", value = "LONGEST. UNKNOWN; OUTSIDE: n (1 to 99).")
    static void slotsOfLongest() {
        FairBlocks x = Check.cell("C110u9100.");
        takes("n of longest", 1, 99, OUTSIDE, v -> x.longest(0, v));
        takes("user of longest", 0, 0, UNKNOWN, v -> x.longest(v, 1));
        CHECK.due("both wrong", x.longest(1, 100), UNKNOWN);
        CHECK.due("longest(0, 1)", x.longest(0, 1), 1);
        CHECK.due("longest(0, 99)", x.longest(0, 99), 99);
    }

    @Says(at = "Promise 16", value = "EMPTY; NONE. UNKNOWN.")
    static void emptyOrNot() {
        FairBlocks x = Check.cell("C110u9100.");
        CHECK.due("now", x.empty(0), 0);
        x.slot(1);
        CHECK.due("never", x.empty(0), NONE);
        CHECK.due("empty(1)", x.empty(1), UNKNOWN);
        CHECK.due("empty(-1)", x.empty(-1), UNKNOWN);
        CHECK.due("empty(most)", x.empty(MOST), UNKNOWN);
        CHECK.due("empty(least)", x.empty(LEAST), UNKNOWN);
    }

    @Says(at = "Promise 17", value = "BEST. UNKNOWN.")
    static void bestOfNobody() {
        FairBlocks x = one();
        takes("best", 0, 0, UNKNOWN, x::best);
        CHECK.due("no users", new FairBlocks().best(0), UNKNOWN);
    }

    @Says(at = "Promise 18", value = "OUTSIDE: n, row (0 or more, 3 n figures at most).")
    static void rowsOfJudge() {
        FairBlocks x = one();
        takes("n of judge", 1, 4, OUTSIDE, v -> x.judge(v, 101));
        long least = 1000L;
        for (int n = 1; n <= 4; n++) {
            CHECK.due("3 figures each", x.judge(n, least - 1), 0);
            CHECK.due("one figure more", x.judge(n, least), OUTSIDE);
            CHECK.due("row 0", x.judge(n, 0), 0);
            CHECK.due("row -1", x.judge(n, -1), OUTSIDE);
            CHECK.due("the greatest row", x.judge(n, Long.MAX_VALUE), OUTSIDE);
            CHECK.due("the least row", x.judge(n, Long.MIN_VALUE), OUTSIDE);
            least *= 1000L;
        }
        // A row is not cut to an int: 2^32 and 101.
        CHECK.due("more than an int has", x.judge(1, (1L << 32) + 101), OUTSIDE);
        CHECK.due("all of a long row", x.judge(4, 101101101101L), NONE);
    }

    // ---- seen

    @Says(at = "Promise 19", value = "UNKNOWN: user; OUTSIDE: n (0 to 9), what (0, 1), v (0 to 99), was (0, 1);")
    static void argumentsOfSee() {
        FairBlocks x = one();
        takes("n of see", 0, 9, OUTSIDE, v -> seen(x, x.see(v, 0, 0, 0, 0)));
        takes("what of see", 0, 1, OUTSIDE, v -> seen(x, x.see(0, 0, v, 0, 0)));
        takes("v of see", 0, 99, OUTSIDE, v -> seen(x, x.see(0, 0, 0, v, 0)));
        takes("was of see", 0, 1, OUTSIDE, v -> seen(x, x.see(0, 0, 0, 0, v)));
        takes("user of see", 0, 0, UNKNOWN, v -> seen(x, x.see(0, v, 0, 0, 0)));
        CHECK.due("all wrong", x.see(10, 1, 2, 100, 2), UNKNOWN);
    }

    /** Forgets what was seen again, so that it is never full. */
    private static int seen(FairBlocks x, int answer) {
        CHECK.due("how much was seen", x.unsee(), answer == 1 ? 1 : 0);
        return answer;
    }

    @Says(at = "Promise 19", value = "FULL: 6.")
    static void theSeventhSeen() {
        FairBlocks x = one();
        for (int i = 1; i <= 6; i++) {
            CHECK.due("see", x.see(0, 0, 0, 0, 1), i);
        }
        CHECK.due("a seventh", x.see(0, 0, 0, 0, 1), FULL);
        CHECK.due("a seventh, outside", x.see(0, 0, 0, 0, 2), OUTSIDE);
        CHECK.due("a seventh of nobody", x.see(0, 1, 0, 0, 0), UNKNOWN);
        CHECK.due("six", x.count(9), 6);
    }

    @Says(at = "Promise 20", value = "Nothing is SEEN: how much there was.")
    static void unseenToNothing() {
        FairBlocks x = one();
        CHECK.due("none", x.unsee(), 0);
        for (int i = 1; i <= 6; i++) {
            x.see(0, 0, 0, 1, 1);
        }
        CHECK.due("by what was seen", x.which(), 0);
        CHECK.due("six", x.unsee(), 6);
        CHECK.due("none", x.unsee(), 0);
        CHECK.due("count(9)", x.count(9), 0);
        CHECK.due("by nothing", x.which(), 1);
        CHECK.due("one again", x.see(0, 0, 0, 0, 1), 1);
        CHECK.due("by that alone", x.which(), 1);
    }

    @Says(at = "Promise 21", value = "WHICH.")
    static void whichOfNoneAndOfFive() {
        CHECK.due("no users", new FairBlocks().which(), 0);
        FairBlocks x = Check.cell("C110" + "u3105.".repeat(5));
        CHECK.due("five", x.which(), 31);
        for (int user = 0; user < 5; user++) {
            x.unsee();
            // Off it keeps the 3 of each slot: only for it are there 27 behind nine.
            x.see(9, user, 1, 27, 1);
            CHECK.due("bit " + user, x.which(), 1 << user);
        }
    }

    // ---- shares, chances

    @Says(at = "Promise 22", value = "SHARE. UNKNOWN; STATE: it is OFF.")
    static void shareOfOneThatIsOff() {
        FairBlocks x = one();
        takes("share", 0, 0, UNKNOWN, v -> x.share(v, true));
        takes("share, below", 0, 0, UNKNOWN, v -> x.share(v, false));
        x.turn(0);
        CHECK.due("off, above", x.share(0, true), STATE);
        CHECK.due("off, below", x.share(0, false), STATE);
        CHECK.due("nobody", x.share(1, true), UNKNOWN);
        x.turn(0);
        CHECK.due("on, above", x.share(0, true), 60);
        CHECK.due("on, below", x.share(0, false), 1);
    }

    @Says(at = "Promise 23", value = "FAILS. UNKNOWN; OUTSIDE: n, x.")
    static void argumentsOfFails() {
        FairBlocks x = one();
        takes("n of fails", 1, 6, OUTSIDE, v -> x.fails(0, v, 5, true));
        takes("x of fails", 0, 10, OUTSIDE, v -> x.fails(0, 1, v, true));
        takes("user of fails", 0, 0, UNKNOWN, v -> x.fails(v, 1, 5, true));
        takes("n of fails, below", 1, 6, OUTSIDE, v -> x.fails(0, v, 5, false));
        takes("x of fails, below", 0, 10, OUTSIDE, v -> x.fails(0, 1, v, false));
        CHECK.due("all wrong", x.fails(1, 0, 11, false), UNKNOWN);
        CHECK.due("n and x wrong", x.fails(0, 7, -1, false), OUTSIDE);
    }

    @Says(at = "Promise 24", value = "THE SEED is v: what it was.")
    static void leastAndGreatestSeed() {
        FairBlocks x = new FairBlocks();
        long was = 0;
        for (long v : new long[] {Long.MAX_VALUE, Long.MIN_VALUE, -1, 1L << 32, 0, 0, 7}) {
            CHECK.due("seed(" + v + ")", x.seed(v), was);
            was = v;
        }
    }

    @Says(at = "Promise 25", value = "DRAWN. OUTSIDE: m.")
    static void timesOfDrawn() {
        FairBlocks x = one();
        takes("drawn", 1, 20, OUTSIDE, x::drawn);
        x.seed(5);
        for (int m : new int[] {0, 21, -1, LEAST, MOST}) {
            CHECK.due("drawn(" + m + ")", x.drawn(m), OUTSIDE);
        }
        CHECK.due("the seed stays", x.seed(5), 5);
    }

    // ---- places to keep in

    @Says(at = "Promise 26", value = "They are kept: THE CLOCK. UNKNOWN.")
    static void placesOfKeep() {
        FairBlocks x = one();
        takes("keep", 0, 1, UNKNOWN, x::keep);
        CHECK.due("clock 0", x.keep(0), 0);
        x.slot(99);
        CHECK.due("clock 99", x.keep(0), 99);
        x.slot(1);
        CHECK.due("kept anew", x.again(0), 99);
        CHECK.due("the other one", x.again(1), 0);
        FairBlocks none = new FairBlocks();
        CHECK.due("no users", none.keep(1), 0);
        none.slot(3);
        none.patience(4);
        CHECK.due("no users", none.again(1), 0);
        CHECK.due("no users: the clock", none.count(5), 0);
        CHECK.due("no users: patience", none.count(4), 0);
    }

    @Says(at = "Promise 27", value = "They are as they were kept: THE CLOCK. UNKNOWN; STATE: none were kept.")
    static void placesOfAgain() {
        FairBlocks x = one();
        for (int place : new int[] {-1, 2, LEAST, MOST}) {
            CHECK.due("again(" + place + ")", x.again(place), UNKNOWN);
        }
        CHECK.due("none were kept in 0", x.again(0), STATE);
        CHECK.due("none were kept in 1", x.again(1), STATE);
        x.slot(2);
        x.keep(1);
        CHECK.due("none were kept in 0", x.again(0), STATE);
        x.slot(2);
        CHECK.due("kept in 1", x.again(1), 2);
        x.slot(5);
        CHECK.due("once more", x.again(1), 2);
        CHECK.due("what it got", x.user(0, GOT), 6);
        x.slot(1);
        x.undo();
        CHECK.due("undo leaves what is kept", x.again(1), 2);
        x.cell();
        CHECK.due("gone with the cell", x.again(1), STATE);
    }

    @Says(at = "Promise 28", value = "OUTSIDE.")
    static void whatOfCount() {
        FairBlocks x = one();
        takes("count", 0, 9, OUTSIDE, x::count);
        for (int what = 10; what <= 300; what++) {
            CHECK.due("count(" + what + ")", x.count(what), OUTSIDE);
        }
    }

    @Says(at = "Promise 28", value = "6 USERS that are OFF (bits), 7 USERS that have a QUEUE or AGAIN (bits)")
    static void bitsOfCount() {
        FairBlocks x = Check.cell("C110" + "u1100.".repeat(5));
        CHECK.due("nobody is off", x.count(6), 0);
        CHECK.due("nobody has anything", x.count(7), 0);
        for (int user = 0; user < 5; user++) {
            x.turn(user);
            CHECK.due("off up to user " + user, x.count(6), (2 << user) - 1);
        }
        x.slot(1);
        CHECK.due("all have something, off, too", x.count(7), 31);
        x.drop(0);
        x.drop(4);
        CHECK.due("all but the first and the last", x.count(7), 14);
        FairBlocks y = Check.cell("C110u0100.u5115.");
        y.slot(1);
        CHECK.due("AGAIN alone", 10 * y.user(1, QUEUE) + y.user(1, AGAIN), 5);
        CHECK.due("that counts", y.count(7), 2);
        // All five of x are off or have something still: in a smaller cell nothing of them is left.
        for (int many = 4; many >= 0; many--) {
            x.slot(1);
            CHECK.due("off ahead of the smaller cell", x.count(6), (2 << many) - 1);
            CHECK.due("something ahead of the smaller cell", x.count(7), (2 << many) - 1);
            x.wipe();
            Check.write(x, "C110" + "u1100.".repeat(many)).cell();
            CHECK.due("off, of " + many + " users", x.count(6), 0);
            CHECK.due("something, of " + many + " users", x.count(7), 0);
            for (int user = 0; user < many; user++) {
                x.turn(user);
            }
        }
    }

    @Says(at = "Promise 28", value = "0 letters of THE TEXT, 1 USERS, 2 B, 3 SHIFT, 4 PATIENCE, 5 THE CLOCK")
    static void leastAndMostOfCount() {
        FairBlocks least = Check.cell("C110");
        FairBlocks most = Check.cell("C449" + "u999999999.".repeat(5));
        int[] wantLeast = {4, 0, 1, 1, 0, 0, 0, 0, 0, 0};
        int[] wantMost = {59, 5, 4, 4, 9, 0, 0, 0, 0, 0};
        for (int what = 0; what <= 9; what++) {
            CHECK.due("the least: count(" + what + ")", least.count(what), wantLeast[what]);
            CHECK.due("the most: count(" + what + ")", most.count(what), wantMost[what]);
        }
        Check.write(most, "x".repeat(30));
        for (int i = 0; i < 20; i++) {
            most.patience(0);
            most.see(0, 0, 0, 0, 0);
        }
        CHECK.due("80 letters", most.count(0), 80);
        CHECK.due("14 acts", most.count(8), 14);
        CHECK.due("6 seen", most.count(9), 6);
    }
}
