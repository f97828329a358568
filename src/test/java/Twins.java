import java.util.function.ToLongFunction;

/** Two objects with the same calls behind them: what only one of them is asked shall leave no trace. */
final class Twins {
    private final Check check;

    Twins(Check check) {
        this.check = check;
    }

    /** Two users, one off, five acts, one place kept, six seen, a seed, a full text that is no cell. */
    static FairBlocks made() {
        FairBlocks x = Check.cell("C212u9125.u39041.");
        x.keep(0);
        x.slot(4);
        x.turn(1);
        x.set(0, 1, 3);
        x.patience(3);
        x.slot(2);
        for (int n = 0; n < 6; n++) {
            x.see(n, n % 2, 1, 90 + n, 0);
        }
        x.seed(4711);
        Check.write(x, "u".repeat(80 - x.count(0)));
        return x;
    }

    /** The call on one of them answers so, and afterwards all that can be asked of both is the same. */
    void leaves(String call, ToLongFunction<FairBlocks> asked, long answer) {
        check.due(call, asked.applyAsLong(made()), answer);
        leaves(call, asked);
    }

    void leaves(String call, ToLongFunction<FairBlocks> asked) {
        FairBlocks x = made();
        FairBlocks y = made();
        long answer = asked.applyAsLong(x);
        check.due(call + ", asked once more", asked.applyAsLong(x), answer);
        check.holds(call + " changes nothing", all(x).equals(all(y)));
    }

    /** All that an object has: it is used up by this. */
    static String all(FairBlocks x) {
        StringBuilder all = new StringBuilder(Check.standing(x));
        all.append(" fault ").append(x.fault()).append(" which ").append(x.which());
        all.append(" drawn ").append(x.drawn(9)).append(" seed ").append(x.seed(1));
        int acts = x.count(8);
        for (int i = 0; i < acts; i++) {
            all.append(" undo ").append(x.undo()).append(' ').append(Check.standing(x)).append(" which ").append(x.which());
        }
        all.append(" again ").append(x.again(1)).append(' ').append(x.again(0)).append(' ').append(Check.standing(x));
        return all.append(" unsee ").append(x.unsee()).append(" wipe ").append(x.wipe()).toString();
    }
}
