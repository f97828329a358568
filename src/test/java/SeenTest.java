/** Promises 19 to 21: see, unsee, which. */
public final class SeenTest {
    private static final Check CHECK = new Check("SeenTest");

    public static void main(String[] args) {
        see();
        sixSeen();
        unsee();
        which();
        whichAsItStandsThen();
        whichLooksAtUsersThatThereAre();
        whichIsAsTurnDoes();
        CHECK.end();
    }

    private static void see() {
        FairBlocks x = Check.cell("C110u3105.");
        CHECK.due("no such user", x.see(10, 1, 2, 100, 2), FairBlocks.UNKNOWN);
        CHECK.due("no such user", x.see(0, -1, 0, 0, 0), FairBlocks.UNKNOWN);
        int[][] wrong = {{-1, 0, 0, 0}, {10, 0, 0, 0}, {0, -1, 0, 0}, {0, 2, 0, 0},
            {0, 0, -1, 0}, {0, 0, 100, 0}, {0, 0, 0, -1}, {0, 0, 0, 2}};
        for (int[] w : wrong) {
            CHECK.due("see(" + w[0] + ", 0, " + w[1] + ", " + w[2] + ", " + w[3] + ")",
                x.see(w[0], 0, w[1], w[2], w[3]), FairBlocks.OUTSIDE);
        }
        CHECK.due("nothing is seen", x.count(9), 0);
        for (int i = 1; i <= 6; i++) {
            CHECK.due("the edges", x.see(9, 0, 1, 99, 1), i);
        }
        CHECK.due("a seventh", x.see(0, 0, 0, 0, 0), FairBlocks.FULL);
        CHECK.due("a seventh, outside", x.see(0, 0, 0, 0, 2), FairBlocks.OUTSIDE);
        CHECK.due("count(9)", x.count(9), 6);
        CHECK.due("all six speak against it", x.which(), 0);
    }

    private static void sixSeen() {
        FairBlocks x = Check.cell("C110u3105.u3105.");
        for (int n = 1; n <= 5; n++) {
            x.see(n, 0, 1, 3 * n, 1);
        }
        CHECK.due("user 0 is off by five", x.which(), 1);
        x.see(9, 0, 1, 27, 0);
        CHECK.due("not by the sixth", x.which(), 0);
    }

    private static void unsee() {
        FairBlocks x = Check.cell("C110u3105.");
        CHECK.due("nothing", x.unsee(), 0);
        x.see(0, 0, 0, 1, 1);
        x.see(0, 0, 0, 2, 1);
        CHECK.due("nobody", x.which(), 0);
        CHECK.due("two", x.unsee(), 2);
        CHECK.due("none left", x.unsee(), 0);
        CHECK.due("count(9)", x.count(9), 0);
        CHECK.due("nothing speaks against it", x.which(), 1);
    }

    private static void which() {
        FairBlocks x = Check.cell("C110u3105.u3105.u3105.");
        CHECK.due("nothing is seen: all", x.which(), 7);
        x.turn(1);
        CHECK.due("nothing is seen: those that are not off", x.which(), 5);
        x.turn(1);
        x.see(1, 0, 1, 3, 1);
        CHECK.due("user 0 keeps its three: only it is off", x.which(), 1);
        x.unsee();
        x.see(1, 0, 1, 3, 0);
        CHECK.due("it does not: one of the others", x.which(), 6);
        x.see(1, 1, 0, 1, 1);
        CHECK.due("user 1 waits: it is not off", x.which(), 4);
        x.see(0, 2, 0, 0, 1);
        CHECK.due("behind no slots", x.which(), 4);
        x.see(0, 2, 1, 1, 1);
        CHECK.due("that is never so", x.which(), 0);
        // AGAIN counts with the QUEUE.
        FairBlocks y = Check.cell("C110u9115.u9101.");
        y.see(1, 0, 1, 9, 1);
        CHECK.due("4 and 5, or 9", y.which(), 3);
        y.see(9, 0, 1, 81, 1);
        CHECK.due("all is lost for ever", y.which(), 3);
    }

    private static void whichAsItStandsThen() {
        FairBlocks x = Check.cell("C110u3105.u3105.");
        x.see(1, 0, 1, 3, 1);
        CHECK.due("now", x.which(), 1);
        x.set(0, 0, 4);
        CHECK.due("four come then", x.which(), 0);
        x.undo();
        x.slot(1);
        // User 1 has 3; the next slot is its own if user 0 is off, else of user 0.
        CHECK.due("behind a slot", x.which(), 1);
        x.turn(0);
        CHECK.due("user 0 is off already and keeps its three: it may be user 1", x.which(), 2);
    }

    private static void whichLooksAtUsersThatThereAre() {
        FairBlocks x = Check.cell("C110u3105.u3105.u3105.");
        x.see(1, 2, 1, 99, 1);
        CHECK.due("not so", x.which(), 0);
        x.wipe();
        Check.write(x, "C110u3105.u3105.").cell();
        CHECK.due("it stays", x.count(9), 1);
        CHECK.due("there is no user 2 any more", x.which(), 3);
        x.wipe();
        Check.write(x, "C110u3105.u3105.u3105.").cell();
        CHECK.due("there is one", x.which(), 0);
        x.wipe();
        Check.write(x, "C110").cell();
        CHECK.due("no users", x.which(), 0);
    }

    private static void whichIsAsTurnDoes() {
        String[] cells = {"C212u9125.u39041.u5109.", "C321u3415312.u210207.u05090.",
            "C430u9119.u9939.u1101.u2102.u4505."};
        for (String cell : cells) {
            for (int n = 0; n <= 9; n++) {
                for (int user = 0; user < 3; user++) {
                    for (int what = 0; what <= 1; what++) {
                        oneSeen(cell, n, user, what);
                    }
                }
            }
        }
    }

    private static void oneSeen(String cell, int n, int user, int what) {
        FairBlocks x = Check.cell(cell);
        x.slot(3);
        int[] told = new int[x.count(1)];
        for (int off = 0; off < told.length; off++) {
            x.turn(off);
            told[off] = what == 0 ? x.ahead(n, user, 8) : x.ahead(n, user, 5) + x.ahead(n, user, 6);
            x.undo();
        }
        for (int v = 0; v <= 99; v += v < 20 ? 1 : 9) {
            int bits = 0;
            for (int off = 0; off < told.length; off++) {
                bits |= told[off] == v ? 1 << off : 0;
            }
            x.unsee();
            x.see(n, user, what, v, 1);
            CHECK.due(cell + " see(" + n + ", " + user + ", " + what + ", " + v + ", 1)", x.which(), bits);
            x.unsee();
            x.see(n, user, what, v, 0);
            CHECK.due(cell + " see(" + n + ", " + user + ", " + what + ", " + v + ", 0)",
                x.which(), (1 << told.length) - 1 - bits);
        }
    }
}
