/**
 * A fair radio scheduler: the blocks of each slot are given one by one to the user that is due.
 * The numbered promises that it keeps stand in DOC.md. Every row is made in the constructor:
 * no call makes an object.
 */
public final class FairBlocks {
    public static final int UNKNOWN = -1, OUTSIDE = -2, STATE = -3, FULL = -4, NONE = -9;

    private static final int MOST_LETTERS = 80, MOST_USERS = 5, MOST_RATES = 6, MOST_BLOCKS = 4;
    private static final int MOST_QUEUE = 999, MOST_ACTS = 14, MOST_SEEN = 6, PLACES = 2;
    private static final int MOST_FAILING = 6, TENTHS = 10, MOST_SLOTS = 99, MOST_DRAWN = 20;
    private static final int EMPTY_WITHIN = 60, BEST_WITHIN = 30, SHARE_WITHIN = 20, SEEN_WITHIN = 9;
    private static final int MOST_DOINGS = 4, MOST_SEEN_FIGURE = 99;
    private static final int[] FACTORIALS = {1, 1, 2, 6, 24, 120};

    private final Text text;
    private final Bench bench;
    private final Plan plan;
    private final Standing live;
    private final Acts acts;
    private final Standing[] kept;
    private final boolean[] isKept;
    private final Outlook outlook;
    private final Court court;
    private final Sightings sightings;
    private final Chances chances;
    private long seedNow;

    public FairBlocks() {
        text = new Text();
        bench = new Bench();
        plan = bench.plan;
        live = bench.live;
        acts = new Acts();
        kept = new Standing[PLACES];
        for (int i = 0; i < PLACES; i++) {
            kept[i] = new Standing();
        }
        isKept = new boolean[PLACES];
        outlook = new Outlook(bench);
        court = new Court(bench);
        sightings = new Sightings(bench);
        chances = new Chances(bench);
        seedNow = 0L;
    }

    // ---- the cell

    public int write(int letter) {
        if (!within(letter, 0, 255)) {
            return OUTSIDE;
        }
        if (text.length >= MOST_LETTERS) {
            return FULL;
        }
        text.add(letter);
        return text.length;
    }

    public int wipe() {
        int was = text.length;
        text.length = 0;
        return was;
    }

    public int fault() {
        return text.firstFault();
    }

    public int cell() {
        if (text.firstFault() != NONE) {
            return STATE;
        }
        text.readInto(plan, live);
        acts.forgetAll();
        for (int i = 0; i < PLACES; i++) {
            isKept[i] = false;
        }
        return plan.users;
    }

    public int user(int user, int what) {
        if (!plan.has(user)) {
            return UNKNOWN;
        }
        if (!within(what, 0, 10)) {
            return OUTSIDE;
        }
        if (what == 0) {
            return plan.rateOf(user, live.clock);
        }
        return live.users[user].told(what);
    }

    // ---- acts

    public int slot(int n) {
        if (!within(n, 1, MOST_SLOTS)) {
            return OUTSIDE;
        }
        acts.remember(live);
        return bench.scheduler.run(live, n);
    }

    public int turn(int user) {
        if (!plan.has(user)) {
            return UNKNOWN;
        }
        acts.remember(live);
        User one = live.users[user];
        one.off = !one.off;
        return one.off ? 1 : 0;
    }

    public int drop(int user) {
        if (!plan.has(user)) {
            return UNKNOWN;
        }
        acts.remember(live);
        User one = live.users[user];
        int was = one.waiting();
        one.dropAll();
        return was;
    }

    public int set(int user, int what, int v) {
        if (!plan.has(user)) {
            return UNKNOWN;
        }
        if (!within(what, 0, 2) || !within(v, what == 1 ? 1 : 0, 9)) {
            return OUTSIDE;
        }
        acts.remember(live);
        return live.users[user].change(what, v);
    }

    public int patience(int v) {
        if (!within(v, 0, 9)) {
            return OUTSIDE;
        }
        acts.remember(live);
        int was = live.patience;
        live.patience = v;
        return was;
    }

    public int undo() {
        if (acts.size == 0) {
            return STATE;
        }
        acts.takeBack(live);
        return acts.size;
    }

    // ---- asked

    public int ahead(int n, int user, int what) {
        if (!plan.has(user)) {
            return UNKNOWN;
        }
        if (!within(n, 0, MOST_SLOTS) || !within(what, 5, 10)) {
            return OUTSIDE;
        }
        Standing trial = bench.freshTrial();
        bench.scheduler.run(trial, n);
        return trial.users[user].told(what);
    }

    public int who(int block) {
        if (!within(block, 0, plan.blocks - 1)) {
            return OUTSIDE;
        }
        bench.scheduler.runOne(bench.freshTrial(), false);
        return bench.scheduler.holderOf(block);
    }

    public int longest(int user, int n) {
        if (!plan.has(user)) {
            return UNKNOWN;
        }
        if (!within(n, 1, MOST_SLOTS)) {
            return OUTSIDE;
        }
        return outlook.longestWait(user, n);
    }

    public int empty(int user) {
        if (!plan.has(user)) {
            return UNKNOWN;
        }
        return outlook.slotsUntilEmpty(user);
    }

    public int best(int user) {
        if (!plan.has(user)) {
            return UNKNOWN;
        }
        return outlook.bestWeight(user);
    }

    public int judge(int n, long row) {
        if (!within(n, 1, MOST_DOINGS) || row < 0L || row >= Court.leastTooLong(n)) {
            return OUTSIDE;
        }
        return court.firstWrong(n, row);
    }

    // ---- seen

    public int see(int n, int user, int what, int v, int was) {
        if (!plan.has(user)) {
            return UNKNOWN;
        }
        if (!within(n, 0, SEEN_WITHIN) || !within(what, 0, 1)
                || !within(v, 0, MOST_SEEN_FIGURE) || !within(was, 0, 1)) {
            return OUTSIDE;
        }
        if (sightings.size >= MOST_SEEN) {
            return FULL;
        }
        sightings.add(n, user, what, v, was);
        return sightings.size;
    }

    public int unsee() {
        int was = sightings.size;
        sightings.size = 0;
        return was;
    }

    public int which() {
        return sightings.suspects();
    }

    // ---- shares, chances

    public int share(int user, boolean upper) {
        if (!plan.has(user)) {
            return UNKNOWN;
        }
        if (live.users[user].off) {
            return STATE;
        }
        return chances.shareOf(user, upper);
    }

    public int fails(int user, int n, int x, boolean upper) {
        if (!plan.has(user)) {
            return UNKNOWN;
        }
        if (!within(n, 1, MOST_FAILING) || !within(x, 0, TENTHS)) {
            return OUTSIDE;
        }
        return chances.emptyBehind(user, n, x, upper);
    }

    public long seed(long v) {
        long was = seedNow;
        seedNow = v;
        return was;
    }

    public int drawn(int m) {
        if (!within(m, 1, MOST_DRAWN)) {
            return OUTSIDE;
        }
        Standing trial = bench.freshTrial();
        int total = 0;
        for (int i = 0; i < m; i++) {
            seedNow = seedNow * 6364136223846793005L + 1442695040888963407L;
            int v = (int) (seedNow >>> 33);
            if (plan.users > 0) {
                trial.users[v / 16 % plan.users].takeIn(v % 10);
            }
            total += bench.scheduler.runOne(trial, false);
        }
        return total;
    }

    // ---- places to keep in

    public int keep(int slot) {
        if (!within(slot, 0, PLACES - 1)) {
            return UNKNOWN;
        }
        kept[slot].copyFrom(live);
        isKept[slot] = true;
        return live.clock;
    }

    public int again(int slot) {
        if (!within(slot, 0, PLACES - 1)) {
            return UNKNOWN;
        }
        if (!isKept[slot]) {
            return STATE;
        }
        live.copyFrom(kept[slot]);
        acts.forgetAll();
        return live.clock;
    }

    public int count(int what) {
        switch (what) {
            case 0: return text.length;
            case 1: return plan.users;
            case 2: return plan.blocks;
            case 3: return plan.shift;
            case 4: return live.patience;
            case 5: return live.clock;
            case 6: return live.offBits(plan.users);
            case 7: return live.waitingBits(plan.users);
            case 8: return acts.size;
            case 9: return sightings.size;
            default: return OUTSIDE;
        }
    }

    private static boolean within(int v, int least, int most) {
        return v >= least && v <= most;
    }

    /** THE TEXT, with the reading of it as a CELL. */
    private static final class Text {
        // What is due next; from RATES_GO_ON on, each figure of RATES is one phase more.
        private static final int MARK = 0, BLOCKS = 1, SHIFT = 2, PATIENCE = 3, NEXT_USER = 4;
        private static final int COMES = 5, WEIGHT = 6, LOSES = 7, FIRST_RATE = 8, RATES_GO_ON = 9;
        private static final int RATES_FULL = RATES_GO_ON + MOST_RATES - 1, WRONG = -1;

        private final int[] letters = new int[MOST_LETTERS];
        int length = 0;

        void add(int letter) {
            if (length < MOST_LETTERS) {
                letters[length] = letter;
                length++;
            }
        }

        int firstFault() {
            int phase = MARK;
            int users = 0;
            for (int place = 0; place < length; place++) {
                if (phase == NEXT_USER) {
                    users++;
                }
                phase = users > MOST_USERS ? WRONG : behind(phase, letters[place]);
                if (phase == WRONG) {
                    return place;
                }
            }
            return phase == NEXT_USER ? NONE : length;
        }

        private static int behind(int phase, int letter) {
            switch (phase) {
                case MARK:
                    return letter == 'C' ? BLOCKS : WRONG;
                case BLOCKS:
                case SHIFT:
                    return within(letter, '1', '4') ? phase + 1 : WRONG;
                case WEIGHT:
                    return within(letter, '1', '9') ? LOSES : WRONG;
                case NEXT_USER:
                    return letter == 'u' ? COMES : WRONG;
                case PATIENCE:
                case COMES:
                case LOSES:
                case FIRST_RATE:
                    return within(letter, '0', '9') ? phase + 1 : WRONG;
                default:
                    return behindRate(phase, letter);
            }
        }

        private static int behindRate(int phase, int letter) {
            if (letter == '.') {
                return NEXT_USER;
            }
            return within(letter, '0', '9') && phase < RATES_FULL ? phase + 1 : WRONG;
        }

        /** To be called only where there is no FAULT. */
        void readInto(Plan plan, Standing standing) {
            plan.blocks = figure(1);
            plan.shift = figure(2);
            plan.users = 0;
            standing.patience = figure(3);
            standing.clock = 0;
            int place = 4;
            while (place < length && plan.users < MOST_USERS) {
                User one = standing.users[plan.users];
                one.begin(figure(place + 1), figure(place + 2), figure(place + 3));
                int first = place + 4;
                place = first;
                while (place < length && letters[place] != '.') {
                    plan.setRate(plan.users, place - first, figure(place));
                    place++;
                }
                place++;
                plan.users++;
            }
        }

        private int figure(int place) {
            return place < length ? letters[place] - '0' : 0;
        }
    }

    /** What a CELL says that no ACT changes. */
    private static final class Plan {
        int blocks = 1;
        int shift = 1;
        int users = 0;
        private final int[] rates = new int[MOST_USERS * MOST_RATES];
        private final int[] rateCounts = new int[MOST_USERS];

        boolean has(int user) {
            return user >= 0 && user < users;
        }

        void setRate(int user, int place, int rate) {
            if (within(user, 0, MOST_USERS - 1) && within(place, 0, MOST_RATES - 1)) {
                rates[user * MOST_RATES + place] = rate;
                rateCounts[user] = place + 1;
            }
        }

        int rateOf(int user, int clock) {
            if (user < 0 || user >= users || clock < 0) {
                return 0;
            }
            int many = rateCounts[user];
            return many > 0 ? rates[user * MOST_RATES + clock % many] : 0;
        }
    }

    /** One USER as it stands. */
    private static final class User {
        int comes;
        int weight;
        int loses;
        boolean off;
        int queue;
        int toRepeat;
        int mean;
        int wait;
        int sent;
        int got;

        void begin(int itsComes, int itsWeight, int itsLoses) {
            comes = itsComes;
            weight = itsWeight;
            loses = itsLoses;
            off = false;
            queue = 0;
            toRepeat = 0;
            mean = 0;
            wait = 0;
            sent = 0;
            got = 0;
        }

        void copyFrom(User other) {
            comes = other.comes;
            weight = other.weight;
            loses = other.loses;
            off = other.off;
            queue = other.queue;
            toRepeat = other.toRepeat;
            mean = other.mean;
            wait = other.wait;
            sent = other.sent;
            got = other.got;
        }

        int told(int what) {
            switch (what) {
                case 1: return comes;
                case 2: return weight;
                case 3: return loses;
                case 4: return off ? 1 : 0;
                case 5: return queue;
                case 6: return toRepeat;
                case 7: return mean;
                case 8: return wait;
                case 9: return sent;
                case 10: return got;
                default: return OUTSIDE;
            }
        }

        int change(int what, int v) {
            int was;
            if (what == 0) {
                was = comes;
                comes = v;
            } else if (what == 1) {
                was = weight;
                weight = v;
            } else {
                was = loses;
                loses = v;
            }
            return was;
        }

        int waiting() {
            return queue + toRepeat;
        }

        void dropAll() {
            queue = 0;
            toRepeat = 0;
        }

        void takeIn(int more) {
            int all = queue + more;
            queue = all > MOST_QUEUE ? MOST_QUEUE : all;
        }

        /** Has a BLOCK at this rate: what it GOT by it. */
        int send(int rate) {
            boolean repeats = toRepeat > 0;
            int much = Math.min(rate, repeats ? toRepeat : queue);
            if (repeats) {
                toRepeat -= much;
            } else {
                queue -= much;
            }
            sent++;
            if (loses > 0 && sent % loses == 0) {
                toRepeat += much;
                return 0;
            }
            got += much;
            return much;
        }
    }

    /** All that ACTS change, and that is kept. */
    private static final class Standing {
        final User[] users = new User[MOST_USERS];
        int patience = 0;
        int clock = 0;

        Standing() {
            for (int i = 0; i < MOST_USERS; i++) {
                users[i] = new User();
            }
        }

        void copyFrom(Standing other) {
            for (int i = 0; i < MOST_USERS; i++) {
                users[i].copyFrom(other.users[i]);
            }
            patience = other.patience;
            clock = other.clock;
        }

        int offBits(int many) {
            int bits = 0;
            for (int i = 0; i < many && i < MOST_USERS; i++) {
                bits |= users[i].off ? 1 << i : 0;
            }
            return bits;
        }

        int waitingBits(int many) {
            int bits = 0;
            for (int i = 0; i < many && i < MOST_USERS; i++) {
                bits |= users[i].waiting() > 0 ? 1 << i : 0;
            }
            return bits;
        }
    }

    /** Runs SLOTS; its rows tell of the SLOT that it ran last. */
    private static final class Scheduler {
        private static final int NO_BLOCK = -1;

        private final Plan plan;
        private final int[] rates = new int[MOST_USERS];
        private final int[] latestBlock = new int[MOST_USERS];
        private final int[] gotNow = new int[MOST_USERS];
        private final int[] holders = new int[MOST_BLOCKS];

        Scheduler(Plan itsPlan) {
            plan = itsPlan;
        }

        /** What all GOT in n SLOTS. */
        int run(Standing standing, int n) {
            int total = 0;
            for (int i = 0; i < n; i++) {
                total += runOne(standing, false);
            }
            return total;
        }

        /** What all GOT in the next SLOT; where it fails, nobody may have a BLOCK. */
        int runOne(Standing standing, boolean failing) {
            comeIn(standing);
            for (int block = 0; block < plan.blocks && block < MOST_BLOCKS; block++) {
                int holder = failing ? NONE : dueFor(standing, block);
                holders[block] = holder;
                if (holder >= 0) {
                    gotNow[holder] += standing.users[holder].send(rates[holder]);
                    latestBlock[holder] = block;
                }
            }
            return endSlot(standing);
        }

        int holderOf(int block) {
            return within(block, 0, MOST_BLOCKS - 1) ? holders[block] : NONE;
        }

        private void comeIn(Standing standing) {
            for (int i = 0; i < plan.users; i++) {
                User one = standing.users[i];
                one.takeIn(one.comes);
                rates[i] = plan.rateOf(i, standing.clock);
                latestBlock[i] = NO_BLOCK;
                gotNow[i] = 0;
            }
        }

        private int endSlot(Standing standing) {
            int total = 0;
            for (int i = 0; i < plan.users; i++) {
                User one = standing.users[i];
                one.mean = one.mean - (one.mean >> plan.shift) + (16 * gotNow[i] >> plan.shift);
                boolean rests = latestBlock[i] != NO_BLOCK || one.off || one.waiting() == 0;
                one.wait = rests ? 0 : one.wait + 1;
                total += gotNow[i];
            }
            standing.clock++;
            return total;
        }

        private int dueFor(Standing standing, int block) {
            int due = NONE;
            for (int i = 0; i < plan.users; i++) {
                // A later user comes first only if it is strictly more: of like ones the least has it.
                if (mayHave(standing.users[i], i, block) && (due == NONE || isBefore(standing, i, due))) {
                    due = i;
                }
            }
            return due;
        }

        private boolean mayHave(User one, int user, int block) {
            if (one.off || rates[user] <= 0 || one.queue == 0 && one.toRepeat == 0) {
                return false;
            }
            return latestBlock[user] == NO_BLOCK || latestBlock[user] == block - 1;
        }

        private boolean isBefore(Standing standing, int i, int j) {
            User one = standing.users[i];
            User other = standing.users[j];
            boolean repeats = one.toRepeat > 0;
            if (repeats != other.toRepeat > 0) {
                return repeats;
            }
            boolean looked = standing.patience > 0;
            boolean urgent = repeats || looked && one.wait >= standing.patience;
            boolean otherUrgent = repeats || looked && other.wait >= standing.patience;
            if (urgent != otherUrgent) {
                return urgent;
            }
            if (urgent) {
                return one.wait > other.wait;
            }
            return rates[i] * one.weight * (other.mean + 1) > rates[j] * other.weight * (one.mean + 1);
        }
    }

    /** THE ROW of ACTS: how all stood ahead of each, in a ring. */
    private static final class Acts {
        private final Standing[] before = new Standing[MOST_ACTS];
        private int first = 0;
        int size = 0;

        Acts() {
            for (int i = 0; i < MOST_ACTS; i++) {
                before[i] = new Standing();
            }
        }

        void remember(Standing live) {
            if (size == MOST_ACTS) {
                first = (first + 1) % MOST_ACTS;
                size--;
            }
            before[(first + size) % MOST_ACTS].copyFrom(live);
            size++;
        }

        void takeBack(Standing live) {
            if (size > 0) {
                size--;
                live.copyFrom(before[(first + size) % MOST_ACTS]);
            }
        }

        void forgetAll() {
            size = 0;
        }
    }

    /** What calls work on: the standing, and a spare one on which SLOTS ahead are tried. */
    private static final class Bench {
        final Plan plan = new Plan();
        final Standing live = new Standing();
        private final Standing trial = new Standing();
        final Scheduler scheduler = new Scheduler(plan);

        Standing freshTrial() {
            trial.copyFrom(live);
            return trial;
        }
    }

    /** What SLOTS ahead bring for one USER. */
    private static final class Outlook {
        private final Bench bench;

        Outlook(Bench itsBench) {
            bench = itsBench;
        }

        int longestWait(int user, int n) {
            Standing trial = bench.freshTrial();
            int most = 0;
            for (int i = 0; i < n; i++) {
                bench.scheduler.runOne(trial, false);
                most = Math.max(most, trial.users[user].wait);
            }
            return most;
        }

        int slotsUntilEmpty(int user) {
            Standing trial = bench.freshTrial();
            for (int n = 0; n <= EMPTY_WITHIN; n++) {
                if (trial.users[user].waiting() == 0) {
                    return n;
                }
                bench.scheduler.runOne(trial, false);
            }
            return NONE;
        }

        int bestWeight(int user) {
            int best = 1;
            int most = -1;
            for (int weight = 1; weight <= 9; weight++) {
                Standing trial = bench.freshTrial();
                trial.users[user].weight = weight;
                bench.scheduler.run(trial, BEST_WITHIN);
                int least = leastGain(trial);
                if (least > most) {
                    most = least;
                    best = weight;
                }
            }
            return best;
        }

        private int leastGain(Standing trial) {
            int least = trial.users[0].got - bench.live.users[0].got;
            for (int i = 1; i < bench.plan.users; i++) {
                least = Math.min(least, trial.users[i].got - bench.live.users[i].got);
            }
            return least;
        }
    }

    /** Judges told doings. */
    private static final class Court {
        private final Bench bench;
        private final Standing peek;

        Court(Bench itsBench) {
            bench = itsBench;
            peek = new Standing();
        }

        /** The least number of more than 3 n figures. */
        static long leastTooLong(int n) {
            long least = 1L;
            for (int i = 0; i < n && i < MOST_DOINGS; i++) {
                least *= 1000L;
            }
            return least;
        }

        int firstWrong(int n, long row) {
            Standing trial = bench.freshTrial();
            for (int place = 0; place < n; place++) {
                int doing = doingAt(row, n - 1 - place);
                if (!holds(trial, doing / 100, doing / 10 % 10, doing % 10)) {
                    return place;
                }
            }
            return NONE;
        }

        /** The three figures that have so many doings behind them. */
        private static int doingAt(long row, int behind) {
            long rest = row;
            for (int i = 0; i < behind; i++) {
                rest /= 1000L;
            }
            return (int) (rest % 1000L);
        }

        /** Does it, if it can be done; asks it, if it is to be asked. */
        private boolean holds(Standing trial, int kind, int second, int third) {
            Plan plan = bench.plan;
            switch (kind) {
                case 1:
                    bench.scheduler.run(trial, 10 * second + third);
                    return second > 0 || third > 0;
                case 2:
                case 3:
                    return second == 0 && plan.has(third) && turnsOrDrops(kind, trial.users[third]);
                case 4:
                    return plan.has(second) && third > 0 && weighs(trial.users[second], third);
                case 5:
                    return plan.has(second) && trial.users[second].wait == third;
                case 6:
                    return plan.has(second) && third < plan.blocks && holderBehind(trial, third) == second;
                case 7:
                    return plan.has(second) && third <= 1
                            && (trial.users[second].waiting() > 0) == (third == 1);
                default:
                    return false;
            }
        }

        private static boolean turnsOrDrops(int kind, User one) {
            if (kind == 2) {
                one.off = !one.off;
            } else {
                one.dropAll();
            }
            return true;
        }

        private static boolean weighs(User one, int weight) {
            one.weight = weight;
            return true;
        }

        /** Who has that BLOCK of the next SLOT; trial stays as it is. */
        private int holderBehind(Standing trial, int block) {
            peek.copyFrom(trial);
            bench.scheduler.runOne(peek, false);
            return bench.scheduler.holderOf(block);
        }
    }

    /** What was SEEN, and who may be OFF by it. */
    private static final class Sightings {
        private final Bench bench;
        private final int[] slots = new int[MOST_SEEN];
        private final int[] users = new int[MOST_SEEN];
        private final int[] whats = new int[MOST_SEEN];
        private final int[] figures = new int[MOST_SEEN];
        private final int[] wases = new int[MOST_SEEN];
        int size = 0;

        Sightings(Bench itsBench) {
            bench = itsBench;
        }

        void add(int n, int user, int what, int v, int was) {
            if (size < MOST_SEEN) {
                slots[size] = n;
                users[size] = user;
                whats[size] = what;
                figures[size] = v;
                wases[size] = was;
                size++;
            }
        }

        int suspects() {
            int bits = 0;
            for (int i = 0; i < bench.plan.users; i++) {
                if (!bench.live.users[i].off && fits(i)) {
                    bits |= 1 << i;
                }
            }
            return bits;
        }

        private boolean fits(int suspect) {
            Standing trial = bench.freshTrial();
            trial.users[suspect].off = true;
            int last = lastSlot();
            for (int n = 0; n <= last; n++) {
                if (n > 0) {
                    bench.scheduler.runOne(trial, false);
                }
                if (!fitsBehind(trial, n)) {
                    return false;
                }
            }
            return true;
        }

        private int lastSlot() {
            int last = 0;
            for (int i = 0; i < size; i++) {
                last = Math.max(last, slots[i]);
            }
            return last;
        }

        private boolean fitsBehind(Standing trial, int n) {
            for (int i = 0; i < size; i++) {
                if (slots[i] == n && bench.plan.has(users[i])) {
                    User one = trial.users[users[i]];
                    int figure = whats[i] == 0 ? one.wait : one.waiting();
                    if ((figure == figures[i]) != (wases[i] == 1)) {
                        return false;
                    }
                }
            }
            return true;
        }
    }

    /** FRACTIONS: shares of users, and slots that fail by chance. */
    private static final class Chances {
        private final Bench bench;

        Chances(Bench itsBench) {
            bench = itsBench;
        }

        int shareOf(int user, boolean upper) {
            int all = (1 << bench.plan.users) - 1 & ~bench.live.offBits(bench.plan.users);
            int many = Integer.bitCount(all);
            int mine = 1 << user;
            int sum = 0;
            for (int there = 0; there <= all; there++) {
                if ((there & ~all) == 0 && (there & mine) == 0) {
                    int earlier = Integer.bitCount(there);
                    // So many orders have just those ahead of the user.
                    int orders = factorial(earlier) * factorial(many - 1 - earlier);
                    sum += orders * (gotWith(there | mine) - gotWith(there));
                }
            }
            return fraction(sum, factorial(many), upper);
        }

        private int gotWith(int there) {
            Standing trial = bench.freshTrial();
            for (int i = 0; i < bench.plan.users; i++) {
                trial.users[i].off = (there >> i & 1) == 0;
            }
            return bench.scheduler.run(trial, SHARE_WITHIN);
        }

        int emptyBehind(int user, int n, int x, boolean upper) {
            int above = 0;
            for (int failing = 0; failing < 1 << n; failing++) {
                int bad = Integer.bitCount(failing);
                int likely = power(x, bad) * power(TENTHS - x, n - bad);
                if (likely > 0 && isEmptyBehind(user, n, failing)) {
                    above += likely;
                }
            }
            return fraction(above, power(TENTHS, n), upper);
        }

        private boolean isEmptyBehind(int user, int n, int failing) {
            Standing trial = bench.freshTrial();
            for (int i = 0; i < n; i++) {
                bench.scheduler.runOne(trial, (failing >> i & 1) == 1);
            }
            return trial.users[user].waiting() == 0;
        }

        private static int power(int base, int n) {
            int product = 1;
            for (int i = 0; i < n; i++) {
                product *= base;
            }
            return product;
        }

        private static int factorial(int n) {
            return within(n, 0, MOST_USERS) ? FACTORIALS[n] : 1;
        }

        private static int fraction(int above, int below, boolean upper) {
            int common = commonDivisor(Math.abs(above), below);
            if (common <= 0) {
                return 0;
            }
            return upper ? above / common : below / common;
        }

        private static int commonDivisor(int a, int b) {
            int greater = a;
            int less = b;
            // Two steps at least halve the greater one: an int has 31 bits.
            for (int i = 0; i < 100 && less != 0; i++) {
                int left = greater % less;
                greater = less;
                less = left;
            }
            return greater;
        }
    }
}
