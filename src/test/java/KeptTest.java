/** Promises 26 to 28: keep, again, count. */
public final class KeptTest {
    private static final Check CHECK = new Check("KeptTest");
    private static final int UNKNOWN = FairBlocks.UNKNOWN, STATE = FairBlocks.STATE;

    public static void main(String[] args) {
        keep();
        againBringsAllBack();
        againTwice();
        count();
        CHECK.end();
    }

    private static void keep() {
        FairBlocks x = Check.cell("C110u3105.");
        CHECK.due("keep(-1)", x.keep(-1), UNKNOWN);
        CHECK.due("keep(2)", x.keep(2), UNKNOWN);
        CHECK.due("again(-1)", x.again(-1), UNKNOWN);
        CHECK.due("again(2)", x.again(2), UNKNOWN);
        CHECK.due("again(0)", x.again(0), STATE);
        CHECK.due("keep(0)", x.keep(0), 0);
        CHECK.due("keep is no act", x.count(8), 0);
        CHECK.due("again(1)", x.again(1), STATE);
        x.slot(5);
        CHECK.due("keep(1)", x.keep(1), 5);
        CHECK.due("again(0)", x.again(0), 0);
        CHECK.due("again(1)", x.again(1), 5);
        x.slot(2);
        CHECK.due("keep(0) anew", x.keep(0), 7);
        x.slot(2);
        CHECK.due("again(0)", x.again(0), 7);
    }

    private static void againBringsAllBack() {
        FairBlocks x = Check.cell("C212u9125.u39041.");
        x.slot(3);
        x.turn(1);
        x.set(0, 0, 8);
        x.set(0, 1, 7);
        x.set(0, 2, 3);
        x.patience(6);
        x.keep(1);
        String kept = Check.standing(x);
        x.turn(1);
        x.turn(0);
        x.set(0, 0, 1);
        x.set(0, 1, 1);
        x.set(0, 2, 1);
        x.patience(0);
        x.slot(9);
        x.drop(0);
        x.seed(9);
        CHECK.due("again(1)", x.again(1), 3);
        CHECK.due("the row of acts is empty", x.count(8), 0);
        CHECK.due("undo()", x.undo(), STATE);
        CHECK.due("the seed is not kept", x.seed(0), 9);
        CHECK.holds("all is as it was kept", kept.equals(acts(Check.standing(x), "6")));
    }

    /** The standing with another number of acts: the ninth number. */
    private static String acts(String standing, String many) {
        String[] parts = standing.split(" ");
        parts[8] = many;
        return String.join(" ", parts) + " ";
    }

    private static void againTwice() {
        FairBlocks x = Check.cell("C110u3105.");
        x.slot(2);
        x.keep(0);
        x.slot(1);
        x.again(0);
        x.slot(4);
        CHECK.due("what is kept stays as it is", x.again(0), 2);
        CHECK.due("what it got", x.user(0, 10), 6);
        x.slot(4);
        x.undo();
        CHECK.due("undo leaves what is kept", x.again(0), 2);
    }

    private static void count() {
        FairBlocks x = Check.cell("C345u9103.u0103.u910003.");
        x.turn(0);
        x.turn(1);
        x.slot(2);
        x.see(0, 0, 0, 0, 0);
        int[] want = {24, 3, 3, 4, 5, 2, 3, 5, 3, 1};
        for (int what = 0; what < want.length; what++) {
            CHECK.due("count(" + what + ")", x.count(what), want[what]);
        }
        CHECK.due("count(-1)", x.count(-1), FairBlocks.OUTSIDE);
        CHECK.due("count(10)", x.count(10), FairBlocks.OUTSIDE);
        // AGAIN alone is something that waits, too.
        FairBlocks y = Check.cell("C110u0100.u5115.");
        y.slot(1);
        CHECK.due("AGAIN alone", y.user(1, 5) * 10 + y.user(1, 6), 5);
        CHECK.due("count(7)", y.count(7), 2);
        // Nothing is left of users of a larger cell.
        FairBlocks z = Check.cell("C110u9100.u9100.u9100.");
        z.slot(1);
        z.turn(1);
        z.turn(2);
        z.wipe();
        Check.write(z, "C110u0100.").cell();
        z.slot(1);
        CHECK.due("of a larger cell: count(6)", z.count(6), 0);
        CHECK.due("of a larger cell: count(7)", z.count(7), 0);
    }
}
