/** Promises 1 to 6: a new object, write, wipe, fault, cell, user. */
public final class CellTest {
    private static final Check CHECK = new Check("CellTest");
    private static final int OUTSIDE = FairBlocks.OUTSIDE, STATE = FairBlocks.STATE, NONE = FairBlocks.NONE;

    public static void main(String[] args) {
        newObject();
        write();
        wipe();
        faults();
        cell();
        cellLeavesAndForgets();
        cellIsAsAtFirst();
        fiveUsers();
        user();
        CHECK.end();
    }

    private static void newObject() {
        FairBlocks x = new FairBlocks();
        int[] counts = {0, 0, 1, 1, 0, 0, 0, 0, 0, 0};
        for (int what = 0; what < counts.length; what++) {
            CHECK.due("new: count(" + what + ")", x.count(what), counts[what]);
        }
        CHECK.due("new: fault()", x.fault(), 0);
        CHECK.due("new: undo()", x.undo(), STATE);
        CHECK.due("new: again(0)", x.again(0), STATE);
        CHECK.due("new: again(1)", x.again(1), STATE);
        CHECK.due("new: user(0, 0)", x.user(0, 0), FairBlocks.UNKNOWN);
        CHECK.due("new: who(0)", x.who(0), NONE);
        CHECK.due("new: who(1)", x.who(1), OUTSIDE);
        CHECK.due("new: which()", x.which(), 0);
        CHECK.due("new: seed(0)", x.seed(0), 0);
    }

    private static void write() {
        FairBlocks x = new FairBlocks();
        CHECK.due("write(0)", x.write(0), 1);
        CHECK.due("write(255)", x.write(255), 2);
        CHECK.due("write(256)", x.write(256), OUTSIDE);
        CHECK.due("write(-1)", x.write(-1), OUTSIDE);
        CHECK.due("count(0)", x.count(0), 2);
        for (int i = 3; i <= 80; i++) {
            CHECK.due("letter " + i, x.write('u'), i);
        }
        CHECK.due("letter 81", x.write('u'), FairBlocks.FULL);
        CHECK.due("letter 81, wrong", x.write(300), OUTSIDE);
        CHECK.due("count(0)", x.count(0), 80);
    }

    private static void wipe() {
        FairBlocks x = Check.write(new FairBlocks(), "C1");
        CHECK.due("wipe()", x.wipe(), 2);
        CHECK.due("wipe()", x.wipe(), 0);
        CHECK.due("count(0)", x.count(0), 0);
        CHECK.due("write behind wipe", x.write('C'), 1);
        CHECK.due("fault behind wipe", x.fault(), 1);
    }

    private static void fault(String text, int want) {
        FairBlocks x = Check.write(new FairBlocks(), text);
        CHECK.due("fault of '" + text + "'", x.fault(), want);
        if (want != NONE) {
            CHECK.due("cell of '" + text + "'", x.cell(), STATE);
        }
    }

    private static void faults() {
        fault("", 0);
        fault("c", 0);
        fault("1", 0);
        fault("C", 1);
        fault("C0", 1);
        fault("C5", 1);
        fault("C1", 2);
        fault("C10", 2);
        fault("C45", 2);
        fault("C44", 3);
        fault("C44:", 3);
        fault("C44/", 3);
        fault("C449", NONE);
        fault("C110", NONE);
        fault("C1100", 4);
        fault("C110.", 4);
        fault("C110U", 4);
        fault("C110 u1111.", 4);
        fault("C110u", 5);
        fault("C110ux", 5);
        fault("C110u9", 6);
        fault("C110u90", 6);
        fault("C110u9:", 6);
        fault("C110u99", 7);
        fault("C110u99.", 7);
        fault("C110u999", 8);
        fault("C110u999.", 8);
        fault("C110u9999", 9);
        fault("C110u9999u", 9);
        fault("C110u9999.", NONE);
        fault("C110u0100.", NONE);
        fault("C110u999123456", 14);
        fault("C110u9991234567", 14);
        fault("C110u999123456.", NONE);
        fault("C110u1111..", 10);
        fault("C110u1111.C", 10);
        fault("C110" + "u1111.".repeat(5), NONE);
        fault("C110" + "u1111.".repeat(5) + "u", 34);
        fault("C110" + "u1111.".repeat(5) + "x", 34);
        fault("C110" + "u1111.".repeat(6), 34);
        fault("C110" + "u111111111.".repeat(5), NONE);
        fault("C110" + "u1111111111.".repeat(5), 14);
    }

    private static void cell() {
        FairBlocks x = Check.write(new FairBlocks(), "C345u2736.u0901234567.");
        CHECK.due("rates of seven figures: cell()", x.cell(), STATE);
        CHECK.due("refused: count(2)", x.count(2), 1);
        x.wipe();
        Check.write(x, "C345u2736.u090123456.");
        CHECK.due("cell()", x.cell(), 2);
        CHECK.due("the text stays: count(0)", x.count(0), 21);
        int[] counts = {21, 2, 3, 4, 5, 0, 0, 0, 0, 0};
        for (int what = 0; what < counts.length; what++) {
            CHECK.due("count(" + what + ")", x.count(what), counts[what]);
        }
        int[] first = {6, 2, 7, 3, 0, 0, 0, 0, 0, 0, 0};
        int[] second = {1, 0, 9, 0, 0, 0, 0, 0, 0, 0, 0};
        for (int what = 0; what <= 10; what++) {
            CHECK.due("user(0, " + what + ")", x.user(0, what), first[what]);
            CHECK.due("user(1, " + what + ")", x.user(1, what), second[what]);
        }
        x.wipe();
        Check.write(x, "C110");
        CHECK.due("a cell without users", x.cell(), 0);
        CHECK.due("no user is left", x.user(0, 0), FairBlocks.UNKNOWN);
    }

    private static void cellLeavesAndForgets() {
        FairBlocks x = Check.cell("C211u9115.u3209.");
        x.slot(7);
        x.turn(1);
        x.keep(0);
        x.keep(1);
        x.see(1, 0, 0, 1, 1);
        x.seed(77);
        String before = Check.standing(x);
        x.write('x');
        CHECK.due("a fault: cell()", x.cell(), STATE);
        CHECK.due("a fault: again(0)", x.again(0), 7);
        x.wipe();
        Check.write(x, "C211u9115.u3209.");
        CHECK.due("the cell once more", x.cell(), 2);
        CHECK.holds("all is as at first", !before.equals(Check.standing(x)));
        CHECK.due("the clock", x.count(5), 0);
        CHECK.due("nobody is off", x.count(6), 0);
        CHECK.due("nothing waits", x.count(7), 0);
        CHECK.due("no act is left", x.count(8), 0);
        CHECK.due("undo()", x.undo(), STATE);
        CHECK.due("what was kept is gone: 0", x.again(0), STATE);
        CHECK.due("what was kept is gone: 1", x.again(1), STATE);
        CHECK.due("what was seen stays", x.count(9), 1);
        CHECK.due("the seed stays", x.seed(0), 77);
        for (int what = 5; what <= 10; what++) {
            CHECK.due("user(0, " + what + ")", x.user(0, what), 0);
        }
    }

    private static void cellIsAsAtFirst() {
        FairBlocks x = Check.cell("C210u9125.u9100.");
        x.slot(2);
        x.turn(0);
        int[] first = {4, 5, 52, 0, 4, 9};
        for (int i = 0; i < first.length; i++) {
            CHECK.due("user(0, " + (5 + i) + ")", x.user(0, 5 + i), first[i]);
        }
        CHECK.due("user(1, 8)", x.user(1, 8), 2);
        CHECK.due("acts", x.count(8), 2);
        CHECK.due("cell()", x.cell(), 2);
        CHECK.due("no acts", x.count(8), 0);
        CHECK.due("undo()", x.undo(), STATE);
        CHECK.holds("as at first", Check.standing(Check.cell("C210u9125.u9100.")).equals(Check.standing(x)));
    }

    private static void fiveUsers() {
        FairBlocks x = Check.cell("C110u1101.u22023.u330456.u4407890.u550123456.");
        int[][] rates = {{1}, {2, 3}, {4, 5, 6}, {7, 8, 9, 0}, {1, 2, 3, 4, 5, 6}};
        for (int clock = 0; clock < 14; clock++) {
            for (int user = 0; user < 5; user++) {
                int want = rates[user][clock % rates[user].length];
                CHECK.due("rate of user " + user + " in slot " + clock, x.user(user, 0), want);
                CHECK.due("comes of user " + user, x.user(user, 1), user + 1);
                CHECK.due("weight of user " + user, x.user(user, 2), user + 1);
            }
            x.slot(1);
        }
    }

    private static void user() {
        FairBlocks x = Check.cell("C110u410592.u9107.");
        int[] rates = {5, 9, 2, 5, 9};
        for (int clock = 0; clock < rates.length; clock++) {
            CHECK.due("rate in slot " + clock, x.user(0, 0), rates[clock]);
            CHECK.due("the only rate in slot " + clock, x.user(1, 0), 7);
            x.slot(1);
        }
        CHECK.due("user(-1, 0)", x.user(-1, 0), FairBlocks.UNKNOWN);
        CHECK.due("user(2, 0)", x.user(2, 0), FairBlocks.UNKNOWN);
        CHECK.due("user(2, 11)", x.user(2, 11), FairBlocks.UNKNOWN);
        CHECK.due("user(0, 11)", x.user(0, 11), OUTSIDE);
        CHECK.due("user(0, -1)", x.user(0, -1), OUTSIDE);
    }
}
