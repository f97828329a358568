/** Boundary cases that the terms name: refusals, USERS, THE TEXT and its FAULT. */
public final class EdgesOfTextsTest {
    private static final Check CHECK = new Check("EdgesOfTextsTest");
    private static final int UNKNOWN = FairBlocks.UNKNOWN, OUTSIDE = FairBlocks.OUTSIDE, STATE = FairBlocks.STATE;
    private static final int FULL = FairBlocks.FULL, NONE = FairBlocks.NONE;
    private static final String FIGURES = "0123456789", USER = "u1111.";
    private static final int[] NO_USERS = {Integer.MIN_VALUE, -9, -1, 2, 3, 4, 5, 6, 256, Integer.MAX_VALUE};

    public static void main(String[] args) throws Exception {
        Edges.run(EdgesOfTextsTest.class, CHECK);
        CHECK.end();
    }

    private static void fault(String text, int want) {
        FairBlocks x = Check.write(new FairBlocks(), text);
        CHECK.due("fault of '" + text + "'", x.fault(), want);
        if (want == NONE) {
            CHECK.holds("'" + text + "' is a cell", x.cell() >= 0);
        } else {
            CHECK.due("'" + text + "' is no cell", x.cell(), STATE);
        }
    }

    /** Of all letters just these can come behind the text. */
    private static void canComeBehind(String text, String letters, String ending) {
        for (int letter = 0; letter <= 255; letter++) {
            FairBlocks x = Check.write(new FairBlocks(), text);
            x.write(letter);
            boolean can = letters.indexOf(letter) >= 0;
            int want = !can ? text.length() : ending.indexOf(letter) >= 0 ? NONE : text.length() + 1;
            CHECK.due("fault of '" + text + "' and letter " + letter, x.fault(), want);
        }
    }

    // ---- what it is

    @Says(at = "What it is", value = "An object is used for at most 512 calls after it has been made")
    static void thereAre512Calls() {
        FairBlocks x = Check.cell("C110u9109.");
        // 10 letters and cell() are 11 calls; 500 more leave one.
        for (int i = 0; i < 500; i++) {
            CHECK.due("slot(99) in call " + (12 + i), x.slot(99), 891);
        }
        CHECK.due("call 512", x.user(0, 10), 445500);
    }

    // ---- refusals

    @Says(at = "Terms", value = "REFUSALS, of several the first that a call names (in just that row)")
    static void ofSeveralRefusalsTheFirst() {
        FairBlocks x = Check.cell("C110u3105.u3105.");
        CHECK.due("user: UNKNOWN ahead of OUTSIDE", x.user(2, 11), UNKNOWN);
        CHECK.due("set: UNKNOWN ahead of OUTSIDE", x.set(2, 3, 10), UNKNOWN);
        CHECK.due("ahead: UNKNOWN ahead of OUTSIDE", x.ahead(100, 2, 11), UNKNOWN);
        CHECK.due("longest: UNKNOWN ahead of OUTSIDE", x.longest(2, 0), UNKNOWN);
        CHECK.due("fails: UNKNOWN ahead of OUTSIDE", x.fails(2, 7, 11, true), UNKNOWN);
        CHECK.due("again: UNKNOWN ahead of STATE", x.again(2), UNKNOWN);
        x.turn(0);
        x.turn(1);
        CHECK.due("share: UNKNOWN ahead of STATE", x.share(2, true), UNKNOWN);
        for (int i = 0; i < 6; i++) {
            x.see(0, 0, 0, 0, 1);
        }
        CHECK.due("see: UNKNOWN ahead of OUTSIDE and FULL", x.see(10, 2, 2, 100, 2), UNKNOWN);
        CHECK.due("see: UNKNOWN ahead of FULL", x.see(0, 2, 0, 0, 0), UNKNOWN);
        CHECK.due("see: OUTSIDE ahead of FULL", x.see(0, 0, 0, 100, 0), OUTSIDE);
        CHECK.due("see: FULL", x.see(0, 0, 0, 99, 0), FULL);
        Check.write(x, "x".repeat(80));
        CHECK.due("write: OUTSIDE ahead of FULL", x.write(256), OUTSIDE);
        CHECK.due("write: FULL", x.write(255), FULL);
    }

    private static void nobodyIs(FairBlocks x, int user) {
        String who = "user " + user + " of " + x.count(1) + ": ";
        CHECK.due(who + "user", x.user(user, 0), UNKNOWN);
        CHECK.due(who + "turn", x.turn(user), UNKNOWN);
        CHECK.due(who + "drop", x.drop(user), UNKNOWN);
        CHECK.due(who + "set", x.set(user, 0, 0), UNKNOWN);
        CHECK.due(who + "ahead", x.ahead(0, user, 5), UNKNOWN);
        CHECK.due(who + "longest", x.longest(user, 1), UNKNOWN);
        CHECK.due(who + "empty", x.empty(user), UNKNOWN);
        CHECK.due(who + "best", x.best(user), UNKNOWN);
        CHECK.due(who + "see", x.see(0, user, 0, 0, 0), UNKNOWN);
        CHECK.due(who + "share", x.share(user, true), UNKNOWN);
        CHECK.due(who + "fails", x.fails(user, 1, 0, true), UNKNOWN);
    }

    private static void somebodyIs(FairBlocks x, int user) {
        String who = "user " + user + " of " + x.count(1) + ": ";
        CHECK.holds(who + "user", x.user(user, 0) >= 0);
        CHECK.due(who + "turn", x.turn(user), 1);
        CHECK.due(who + "turn", x.turn(user), 0);
        CHECK.holds(who + "drop", x.drop(user) >= 0);
        CHECK.holds(who + "set", x.set(user, 0, 1) >= 0);
        CHECK.holds(who + "ahead", x.ahead(0, user, 5) >= 0);
        CHECK.holds(who + "longest", x.longest(user, 1) >= 0);
        CHECK.due(who + "empty", x.empty(user), 0);
        CHECK.holds(who + "best", x.best(user) >= 1);
        CHECK.due(who + "see", x.see(0, user, 0, 0, 0), 1);
        CHECK.due(who + "unsee", x.unsee(), 1);
        CHECK.due(who + "share", x.share(user, false), 1);
        CHECK.holds(who + "fails", x.fails(user, 1, 0, true) >= 0);
    }

    @Says(at = "Terms", value = "UNKNOWN (there is no such USER")
    static void noSuchUser() {
        FairBlocks none = new FairBlocks();
        nobodyIs(none, 0);
        nobodyIs(none, 1);
        nobodyIs(none, -1);
        FairBlocks two = Check.cell("C110u1101.u1101.");
        for (int user : NO_USERS) {
            nobodyIs(two, user);
        }
        somebodyIs(two, 0);
        somebodyIs(two, 1);
        FairBlocks five = Check.cell("C110" + "u0101.".repeat(5));
        nobodyIs(five, 5);
        nobodyIs(five, -1);
        somebodyIs(five, 0);
        somebodyIs(five, 4);
        // Users of a larger cell are gone with it.
        five.wipe();
        Check.write(five, "C110u0101.").cell();
        nobodyIs(five, 1);
        nobodyIs(five, 4);
        somebodyIs(five, 0);
    }

    @Says(at = "Terms", value = "place to keep in)")
    static void noSuchPlace() {
        FairBlocks x = Check.cell("C110u1101.");
        for (int place : NO_USERS) {
            CHECK.due("keep(" + place + ")", x.keep(place), UNKNOWN);
            CHECK.due("again(" + place + ")", x.again(place), UNKNOWN);
        }
        CHECK.due("keep(0)", x.keep(0), 0);
        CHECK.due("keep(1)", x.keep(1), 0);
    }

    @Says(at = "Terms", value = "What is refused changes nothing.")
    static void whatIsRefusedChangesNothing() {
        Twins twins = new Twins(CHECK);
        twins.leaves("write(-1)", x -> x.write(-1), OUTSIDE);
        twins.leaves("write(256)", x -> x.write(256), OUTSIDE);
        twins.leaves("write, full", x -> x.write('x'), FULL);
        twins.leaves("cell, a fault", x -> x.cell(), STATE);
        twins.leaves("user(3, 0)", x -> x.user(3, 0), UNKNOWN);
        twins.leaves("user(0, 11)", x -> x.user(0, 11), OUTSIDE);
        twins.leaves("slot(0)", x -> x.slot(0), OUTSIDE);
        twins.leaves("slot(100)", x -> x.slot(100), OUTSIDE);
        twins.leaves("turn(3)", x -> x.turn(3), UNKNOWN);
        twins.leaves("drop(3)", x -> x.drop(3), UNKNOWN);
        twins.leaves("set(3, 0, 0)", x -> x.set(3, 0, 0), UNKNOWN);
        twins.leaves("set(0, 3, 0)", x -> x.set(0, 3, 1), OUTSIDE);
        twins.leaves("set(0, 1, 0)", x -> x.set(0, 1, 0), OUTSIDE);
        twins.leaves("set(0, 0, 10)", x -> x.set(0, 0, 10), OUTSIDE);
        twins.leaves("patience(-1)", x -> x.patience(-1), OUTSIDE);
        twins.leaves("patience(10)", x -> x.patience(10), OUTSIDE);
        twins.leaves("ahead(100, 0, 5)", x -> x.ahead(100, 0, 5), OUTSIDE);
        twins.leaves("who(2)", x -> x.who(2), OUTSIDE);
        twins.leaves("longest(0, 100)", x -> x.longest(0, 100), OUTSIDE);
        twins.leaves("empty(3)", x -> x.empty(3), UNKNOWN);
        twins.leaves("best(3)", x -> x.best(3), UNKNOWN);
        twins.leaves("judge(1, 1000)", x -> x.judge(1, 1000), OUTSIDE);
        twins.leaves("see(0, 3, 0, 0, 0)", x -> x.see(0, 3, 0, 0, 0), UNKNOWN);
        twins.leaves("see(10, 0, 0, 0, 0)", x -> x.see(10, 0, 0, 0, 0), OUTSIDE);
        twins.leaves("see, full", x -> x.see(1, 1, 1, 1, 1), FULL);
        twins.leaves("share(3)", x -> x.share(3, true), UNKNOWN);
        twins.leaves("share, off", x -> x.share(1, true), STATE);
        twins.leaves("fails(0, 7, 0)", x -> x.fails(0, 7, 0, true), OUTSIDE);
        twins.leaves("drawn(0)", x -> x.drawn(0), OUTSIDE);
        twins.leaves("drawn(21)", x -> x.drawn(21), OUTSIDE);
        twins.leaves("keep(2)", x -> x.keep(2), UNKNOWN);
        twins.leaves("again(2)", x -> x.again(2), UNKNOWN);
        twins.leaves("again(1), none kept", x -> x.again(1), STATE);
        twins.leaves("count(10)", x -> x.count(10), OUTSIDE);
        FairBlocks fresh = new FairBlocks();
        String before = Check.standing(fresh);
        CHECK.due("undo of none", fresh.undo(), STATE);
        CHECK.holds("undo of none leaves all", before.equals(Check.standing(fresh)));
    }

    @Says(at = "Terms", value = "FRACTIONS are told above (upper = true; less than 0, if they are), below")
    static void aFractionMayBeLessThanNothing() {
        // User 0 loses all and has AGAIN for ever: with it there nobody has anything.
        FairBlocks x = Check.cell("C110u9119.u5105.");
        CHECK.due("above", x.share(0, true), -50);
        CHECK.due("below", x.share(0, false), 1);
        // Two like it and user 2, who alone has 100 in 20 slots: only if one comes right behind user 2 alone.
        FairBlocks y = Check.cell("C110u9119.u9119.u5105.");
        CHECK.due("above, of six orders one", y.share(0, true), -50);
        CHECK.due("below, of six orders one", y.share(0, false), 3);
    }

    @Says(at = "Terms", value = "in least terms")
    static void fractionsAreInLeastTerms() {
        FairBlocks x = Check.cell("C110u5105.");
        CHECK.due("5 of 10, above", x.fails(0, 1, 5, true), 1);
        CHECK.due("5 of 10, below", x.fails(0, 1, 5, false), 2);
        CHECK.due("nothing, above", x.fails(0, 6, 10, true), 0);
        CHECK.due("nothing, below", x.fails(0, 6, 10, false), 1);
        CHECK.due("all, above", x.fails(0, 6, 0, true), 1);
        CHECK.due("all, below", x.fails(0, 6, 0, false), 1);
        CHECK.due("not less any more, above", x.fails(0, 1, 3, true), 7);
        CHECK.due("not less any more, below", x.fails(0, 1, 3, false), 10);
        FairBlocks three = Check.cell("C110u5105.u5105.u5105.");
        CHECK.due("200 of 6, above", three.share(2, true), 100);
        CHECK.due("200 of 6, below", three.share(2, false), 3);
        FairBlocks nothing = Check.cell("C110u5100.u5100.");
        CHECK.due("no share, above", nothing.share(1, true), 0);
        CHECK.due("no share, below", nothing.share(1, false), 1);
    }

    @Says(at = "Terms", value = "refusals of them are told likewise")
    static void fractionsAreRefusedAboveAndBelow() {
        FairBlocks x = Check.cell("C110u5105.");
        x.turn(0);
        for (int i = 0; i < 2; i++) {
            boolean upper = i == 0;
            CHECK.due("share, no such user", x.share(1, upper), UNKNOWN);
            CHECK.due("share, off", x.share(0, upper), STATE);
            CHECK.due("fails, no such user", x.fails(1, 1, 1, upper), UNKNOWN);
            CHECK.due("fails, n", x.fails(0, 0, 1, upper), OUTSIDE);
            CHECK.due("fails, x", x.fails(0, 1, 11, upper), OUTSIDE);
        }
    }

    @Says(at = "Terms", value = "Places (FAULT, JUDGED) are counted from 0 on.")
    static void placesAreCountedFromNothing() {
        fault("x", 0);
        fault("Cx", 1);
        FairBlocks x = Check.cell("C110u5105.");
        CHECK.due("the first doing", x.judge(2, 900900), 0);
        CHECK.due("the second", x.judge(2, 101900), 1);
    }

    // ---- users

    @Says(at = "Terms", value = "USERS are 0, 1, .. (never more than 5; none at first).")
    static void noneToFiveUsers() {
        CHECK.due("none at first", new FairBlocks().count(1), 0);
        for (int many = 0; many <= 5; many++) {
            FairBlocks x = Check.write(new FairBlocks(), "C110" + USER.repeat(many));
            CHECK.due("users told", x.cell(), many);
            CHECK.due("users there", x.count(1), many);
        }
        FairBlocks x = Check.write(new FairBlocks(), "C110" + USER.repeat(6));
        CHECK.due("six told", x.cell(), STATE);
        CHECK.due("none there", x.count(1), 0);
    }

    @Says(at = "Terms", value = "Each has RATES, a row of 1 to 6 figures (0 to 9)")
    static void oneToSixRates() {
        fault("C110u111.", 8);
        for (int many = 1; many <= 6; many++) {
            String rates = "908172".substring(0, many);
            FairBlocks x = Check.cell("C110u010" + rates + ".");
            for (int clock = 0; clock < many; clock++) {
                CHECK.due("rate " + clock + " of " + rates, x.user(0, 0), rates.charAt(clock) - '0');
                x.slot(1);
            }
        }
        fault("C110u1119081726.", 14);
    }

    @Says(at = "Terms", value = "COMES (0 to 9), a WEIGHT (1 to 9), LOSES (0 to 9)")
    static void leastAndMostOfAUser() {
        FairBlocks x = Check.cell("C110u0100.u9999.");
        int[] least = {0, 0, 1, 0};
        for (int what = 0; what <= 3; what++) {
            CHECK.due("the least: user(0, " + what + ")", x.user(0, what), least[what]);
            CHECK.due("the most: user(1, " + what + ")", x.user(1, what), 9);
        }
        fault("C110u9099.", 6);
    }

    @Says(at = "Terms", value = "and is OFF or not (not at first)")
    static void nobodyIsOffAtFirst() {
        FairBlocks x = Check.cell("C110" + USER.repeat(5));
        for (int user = 0; user < 5; user++) {
            CHECK.due("user(" + user + ", 4)", x.user(user, 4), 0);
            x.turn(user);
        }
        CHECK.due("all are off", x.count(6), 31);
        x.cell();
        CHECK.due("nobody is off in another cell", x.count(6), 0);
        CHECK.due("user(4, 4)", x.user(4, 4), 0);
    }

    @Says(at = "Terms", value = "its RATE is that of RATES that is left of t by how many there are (0: the first)")
    static void ratesBeginAnew() {
        for (int many = 1; many <= 6; many++) {
            FairBlocks x = Check.cell("C110u010" + "123456".substring(0, many) + ".");
            for (int clock = 0; clock <= 13; clock++) {
                CHECK.due(many + " rates, slot " + clock, x.user(0, 0), clock % many + 1);
                x.slot(1);
            }
            x.slot(99);
            CHECK.due(many + " rates, slot 113", x.user(0, 0), 113 % many + 1);
        }
    }

    @Says(at = "Terms", value = "A SLOT has BLOCKS 0 to B less 1 (B 1 to 4; 1 at first).")
    static void oneToFourBlocks() {
        CHECK.due("at first", new FairBlocks().count(2), 1);
        for (int b = 1; b <= 4; b++) {
            FairBlocks x = Check.cell("C" + b + "10u9101.");
            CHECK.due("count(2)", x.count(2), b);
            CHECK.due("what is had in " + b, x.slot(1), b);
            CHECK.due("the last block of " + b, x.who(b - 1), 0);
            CHECK.due("one block more than " + b, x.who(b), OUTSIDE);
        }
        fault("C010", 1);
        fault("C510", 1);
    }

    @Says(at = "Terms", value = "SHIFT is 1 to 4 (1 at first), PATIENCE 0 to 9 (0 at first).")
    static void shiftAndPatience() {
        FairBlocks none = new FairBlocks();
        CHECK.due("shift at first", none.count(3), 1);
        CHECK.due("patience at first", none.count(4), 0);
        for (int shift = 1; shift <= 4; shift++) {
            FairBlocks x = Check.cell("C1" + shift + "0u9109.");
            CHECK.due("count(3)", x.count(3), shift);
            x.slot(1);
            CHECK.due("mean by shift " + shift, x.user(0, 7), 144 >> shift);
        }
        fault("C100", 2);
        fault("C150", 2);
        for (int patience = 0; patience <= 9; patience++) {
            CHECK.due("count(4)", Check.cell("C11" + patience).count(4), patience);
        }
        fault("C11:", 3);
        fault("C11/", 3);
    }

    @Says(at = "Terms", value = "Of each USER there are, 0 at first: its QUEUE (0 to 999), AGAIN (what is to go again), "
        + "its MEAN, its WAIT, how often it SENT, what it GOT.")
    static void allIsNothingAtFirst() {
        FairBlocks x = Check.cell("C110" + "u9129.".repeat(5));
        for (int user = 0; user < 5; user++) {
            for (int what = 5; what <= 10; what++) {
                CHECK.due("user(" + user + ", " + what + ")", x.user(user, what), 0);
            }
        }
    }

    // ---- the text

    @Says(at = "Terms", value = "THE TEXT is letters (never more than 80).")
    static void eightyLetters() {
        FairBlocks x = Check.write(new FairBlocks(), "y".repeat(79));
        CHECK.due("79", x.count(0), 79);
        CHECK.due("one more", x.write('y'), 80);
        CHECK.due("and one more", x.write('y'), FULL);
        CHECK.due("80", x.count(0), 80);
    }

    @Says(at = "Terms", value = "A CELL is a TEXT: C, B (1 to 4), SHIFT (1 to 4), PATIENCE (a figure), "
        + "then USERS, none or more:")
    static void lettersOfTheHead() {
        canComeBehind("", "C", "");
        canComeBehind("C", "1234", "");
        canComeBehind("C1", "1234", "");
        canComeBehind("C4", "1234", "");
        canComeBehind("C11", FIGURES, FIGURES);
        canComeBehind("C110", "u", "");
    }

    @Says(at = "Terms", value = "u, COMES (a figure), WEIGHT (1 to 9), LOSES (a figure), RATES (1 to 6 figures), "
        + "a point (.).")
    static void lettersOfAUser() {
        canComeBehind("C110u", FIGURES, "");
        canComeBehind("C110u0", "123456789", "");
        canComeBehind("C110u01", FIGURES, "");
        canComeBehind("C110u010", FIGURES, "");
        for (int rates = 1; rates <= 5; rates++) {
            canComeBehind("C110u010" + "9".repeat(rates), FIGURES + ".", ".");
        }
        canComeBehind("C110u010999999", ".", ".");
        canComeBehind("C110u0109.", "u", "");
        canComeBehind("C110u0109.u", FIGURES, "");
    }

    @Says(at = "Terms", value = "(Without blanks.)")
    static void noBlanks() {
        String cell = "C110u1111.u2222.";
        fault(cell, NONE);
        for (int place = 0; place <= cell.length(); place++) {
            fault(cell.substring(0, place) + " " + cell.substring(place), place);
        }
    }

    @Says(at = "Terms", value = "FAULT: the place of the first letter by which THE TEXT can be no CELL, "
        + "whatever came behind it")
    static void theFirstFaultWhateverComesBehind() {
        String cell = "C110u1111.u2222.";
        for (int place = 0; place < cell.length(); place++) {
            String wrong = cell.substring(0, place) + "x" + cell.substring(place + 1);
            fault(wrong, place);
            fault(wrong + "u3333.", place);
            fault(wrong + "x", place);
            fault(wrong.substring(0, place + 1), place);
        }
        fault("C010u1111.u2222.", 1);
        fault("C110u1011.u2022.", 6);
    }

    @Says(at = "Terms", value = "(its length set aside; so a sixth u, a seventh figure of RATES)")
    static void sixthUserAndSeventhRate() {
        fault("C110" + USER.repeat(5), NONE);
        fault("C110" + USER.repeat(5) + "u", 34);
        fault("C110" + USER.repeat(6), 34);
        fault("C110" + USER.repeat(4) + "u", 29);
        fault("C110u111123456", 14);
        fault("C110u111123456.", NONE);
        fault("C110u1111234567", 14);
        fault("C110u1111234567.", 14);
        // The longest cell has 59 letters; what is told behind it up to 80 is a fault at once.
        String longest = "C449" + "u999999999.".repeat(5);
        fault(longest, NONE);
        fault(longest + "u".repeat(21), 59);
        fault(longest + ".".repeat(21), 59);
        fault("C".repeat(80), 1);
    }

    @Says(at = "Terms", value = "its length, if it is only not at its end; NONE: none.")
    static void itsLengthIfItIsNotAtItsEnd() {
        String cell = "C110u1111.u222123456.";
        for (int length = 0; length <= cell.length(); length++) {
            boolean ends = length == 4 || length == 10 || length == 21;
            fault(cell.substring(0, length), ends ? NONE : length);
        }
    }
}
