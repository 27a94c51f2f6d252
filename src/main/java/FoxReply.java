import java.util.Arrays;

/**
 * The fox has the right of reply. DOC.md says what each call answers.
 *
 * <p>All rows are made in the constructor and used again by every call, so that only a RULE that is
 * told makes anything more.
 */
public final class FoxReply {
    public static final int NONE = -1;

    private static final int MOST_BYTES = 400;
    private static final int BYTES_FED = 20;
    private static final int MOST_RIDERS = 6;
    private static final int MOST_RULES = 6;
    private static final int MOST_NOTES = 10;
    private static final int MOST_IMAGES = 4;
    private static final int MOST_PACE = 9;
    private static final int MOST_ROW = 4;
    private static final int LAST_STEP_BY_HAND = 999;
    private static final int LONG_LOOK = 200;
    private static final int NOBODY_CLOSE = 99999;

    /** PACES that are played in RESTS: 1, 3, 5, 7, 9. */
    private static final int PLAYS = 5;

    private final byte[] tape = new byte[MOST_BYTES];
    private int tapeLength;
    private final HuntReader huntReader = new HuntReader(new Signs(tape));
    private final RuleReader ruleReader = new RuleReader(new Signs(tape));

    private final Rule[] rules = new Rule[MOST_RULES];
    private int ruleCount;

    private final World world = new World();
    private final World[] images = new World[MOST_IMAGES];
    private final boolean[] imageMade = new boolean[MOST_IMAGES];
    private final Acts acts = new Acts();

    private final Stepper stepper = new Stepper();
    private final Chase trial = new Chase();
    private final RowSearch rowSearch = new RowSearch(stepper);
    private final int[] byRun = new int[MOST_RIDERS];
    private final int[] gainOfOne = new int[PLAYS * PLAYS];
    private final int[] gainOfOther = new int[PLAYS * PLAYS];

    /** Place 0 is for no RULE, place k + 1 for RULE k. */
    private final boolean[] isSo = new boolean[MOST_RULES + 1];
    private final int[] seenRuns = new int[(MOST_RULES + 1) * MOST_RIDERS];

    public FoxReply() {
        for (int i = 0; i < MOST_IMAGES; i++) {
            images[i] = new World();
        }
    }

    // ---- the TAPE, HUNT and RULES

    public int feed(int a, int b, int c, int d, int e) {
        if (tapeLength > MOST_BYTES - BYTES_FED) {
            return NONE;
        }
        append(a);
        append(b);
        append(c);
        append(d);
        append(e);
        return tapeLength;
    }

    private void append(int four) {
        for (int shift = 24; shift >= 0; shift -= 8) {
            if (tapeLength >= 0 && tapeLength < MOST_BYTES) {
                tape[tapeLength] = (byte) (four >>> shift);
                tapeLength++;
            }
        }
    }

    public int end(int n) {
        if (n < 0 || n > tapeLength) {
            return NONE;
        }
        tapeLength = n;
        return n;
    }

    public int hunt() {
        int fault = huntReader.read(tapeLength);
        tapeLength = 0;
        if (fault != 0) {
            return -2 - fault;
        }
        world.begun.copyFrom(huntReader.told);
        world.now.copyFrom(huntReader.told);
        world.notes.clear();
        acts.clear();
        return world.now.riders;
    }

    public int rule() {
        if (ruleCount >= MOST_RULES) {
            return NONE;
        }
        int fault = ruleReader.read(tapeLength);
        tapeLength = 0;
        if (fault != 0) {
            return -2 - fault;
        }
        rules[ruleCount] = ruleReader.made();
        ruleCount++;
        return ruleCount - 1;
    }

    public int force(int rule) {
        if (!within(rule, NONE, ruleCount - 1)) {
            return -2;
        }
        int was = world.force;
        world.force = rule;
        return was;
    }

    /** Null where there is none such, which is how no RULE is told everywhere inside. */
    private Rule ruleOf(int rule) {
        return within(rule, 0, ruleCount - 1) ? rules[rule] : null;
    }

    private boolean isHunted() {
        return world.now.round > 0;
    }

    private static boolean within(int value, int least, int most) {
        return value >= least && value <= most;
    }

    // ---- how it is

    public int rider(int rider, int what) {
        Chase now = world.now;
        if (!now.hasRider(rider)) {
            return NONE;
        }
        switch (what) {
            case 0:
                return now.run[rider];
            case 1:
                return now.pace[rider];
            case 2:
                return now.ground[rider];
            case 3:
                return now.was[rider];
            default:
                return NONE;
        }
    }

    public int gateAt(int field) {
        if (!world.now.hasField(field)) {
            return NONE;
        }
        return world.now.isGate(field) ? 1 : 0;
    }

    public int count(int what) {
        Chase now = world.now;
        switch (what) {
            case 0:
                return now.round;
            case 1:
                return now.foxPace;
            case 2:
                return now.law;
            case 3:
                return now.riders;
            case 4:
                return Long.bitCount(now.gates);
            case 5:
                return ruleCount;
            case 6:
                return world.force;
            case 7:
                return now.step;
            case 8:
                return now.fox;
            case 9:
                return now.outBits();
            case 10:
                return now.allTimesIt();
            case 11:
                return world.notes.many;
            case 12:
                return acts.many;
            case 13:
                return world.x;
            case 14:
                return tapeLength;
            default:
                return NONE;
        }
    }

    // ---- ACTS

    public int step() {
        if (!isHunted() || world.now.step >= LAST_STEP_BY_HAND) {
            return -2;
        }
        acts.keep(world.now);
        return stepper.take(world.now, ruleOf(world.force));
    }

    public int spur(int rider, int pace) {
        Chase now = world.now;
        if (!now.hasRider(rider) || !within(pace, 1, MOST_PACE) || now.pace[rider] == pace) {
            return NONE;
        }
        acts.keep(now);
        int was = now.pace[rider];
        now.pace[rider] = pace;
        return was;
    }

    public int hold(int rider, int fields) {
        Chase now = world.now;
        if (!now.hasRider(rider) || !within(fields, 1, 9)) {
            return NONE;
        }
        if (now.ground[rider] > 0 || now.run[rider] < fields) {
            return NONE;
        }
        acts.keep(now);
        now.run[rider] -= fields;
        return now.run[rider];
    }

    public int dig(int rider) {
        Chase now = world.now;
        if (!now.hasRider(rider) || now.ground[rider] <= 0) {
            return NONE;
        }
        acts.keep(now);
        int steps = now.ground[rider];
        now.ground[rider] = 0;
        return steps;
    }

    public int gate(int field) {
        Chase now = world.now;
        if (!now.hasField(field)) {
            return NONE;
        }
        acts.keep(now);
        now.turnGate(field);
        return now.isGate(field) ? 1 : 0;
    }

    public int undo() {
        if (acts.many == 0) {
            return NONE;
        }
        acts.takeBack(world.now);
        return acts.many;
    }

    // ---- what is asked of STEPS to come

    /** The trial goes on from how it is now, so that nothing changes by what is asked. */
    private void tryFromNow() {
        trial.copyFrom(world.now);
    }

    private int tryStep() {
        return stepper.take(trial, ruleOf(world.force));
    }

    public int last() {
        return isHunted() ? world.now.lastRider() : -2;
    }

    public int ahead(int rider, int n, int what) {
        if (!isHunted() || !within(n, 0, 100) || !within(what, 0, 2)) {
            return NONE;
        }
        if (what != 0 && !world.now.hasRider(rider)) {
            return NONE;
        }
        tryFromNow();
        for (int i = 0; i < n; i++) {
            tryStep();
        }
        if (what == 0) {
            return trial.fox;
        }
        return what == 1 ? trial.run[rider] : trial.was[rider];
    }

    public int it(int rider) {
        if (!world.now.hasRider(rider)) {
            return NONE;
        }
        tryFromNow();
        for (int i = 0; i < LONG_LOOK; i++) {
            if (tryStep() == rider) {
                return world.now.step + i;
            }
        }
        return -2;
    }

    public int leastPace(int rider, int n) {
        if (!world.now.hasRider(rider) || !within(n, 1, 60)) {
            return NONE;
        }
        for (int pace = 1; pace <= MOST_PACE; pace++) {
            tryFromNow();
            trial.pace[rider] = pace;
            if (timesItOf(rider, n, 1) == 0) {
                return pace;
            }
        }
        return -2;
    }

    /** How often a RIDER is IT in n STEPS of the trial; it stops at enough, where more says no more. */
    private int timesItOf(int rider, int n, int enough) {
        int times = 0;
        for (int i = 0; i < n && times < enough; i++) {
            if (tryStep() == rider) {
                times++;
            }
        }
        return times;
    }

    /** Likewise, of all RIDERS together. */
    private int timesItOfAll(int n, int enough) {
        int times = 0;
        for (int i = 0; i < n && times < enough; i++) {
            if (tryStep() != NONE) {
                times++;
            }
        }
        return times;
    }

    public int row(int rider, int n, int what) {
        if (!world.now.hasRider(rider) || !within(n, 1, MOST_ROW) || !within(what, 0, 2)) {
            return NONE;
        }
        rowSearch.find(world.now, ruleOf(world.force), rider, n);
        if (what == 0) {
            return rowSearch.bestTimes;
        }
        return what == 1 ? rowSearch.bestRun : rowSearch.bestFirst;
    }

    public int shut(int n, int what) {
        if (!isHunted() || !within(n, 1, 60) || !within(what, 0, 1)) {
            return -2;
        }
        int best = NONE;
        tryFromNow();
        int least = timesItOfAll(n, n);
        for (int field = 0; field < world.now.round; field++) {
            if (world.now.isGate(field)) {
                tryFromNow();
                trial.turnGate(field);
                int times = timesItOfAll(n, least);
                if (times < least) {
                    least = times;
                    best = field;
                }
            }
        }
        return what == 0 ? best : least;
    }

    public int open(int rider, int n, int what) {
        if (!world.now.hasRider(rider) || !within(n, 1, 60) || !within(what, 0, 1)) {
            return -2;
        }
        int best = NONE;
        tryFromNow();
        int most = timesItOf(rider, n, n);
        for (int field = 0; field < world.now.round; field++) {
            if (!world.now.isGate(field)) {
                tryFromNow();
                trial.turnGate(field);
                int times = timesItOf(rider, n, n);
                if (times > most) {
                    most = times;
                    best = field;
                }
            }
        }
        return what == 0 ? best : most;
    }

    public int help(int n, int what) {
        if (!isHunted() || !within(n, 1, 60) || !within(what, 0, 1)) {
            return NONE;
        }
        int riders = world.now.riders;
        for (int size = 0; size <= riders; size++) {
            for (int set = 0; set < 1 << riders; set++) {
                if (Integer.bitCount(set) == size && helps(set, n)) {
                    return what == 0 ? size : set;
                }
            }
        }
        return -2;
    }

    private boolean helps(int set, int n) {
        tryFromNow();
        for (int i = 0; i < trial.riders; i++) {
            if ((set >> i & 1) != 0) {
                trial.pace[i] = MOST_PACE;
            }
        }
        for (int i = 0; i < n; i++) {
            int who = tryStep();
            if (trial.hasRider(who) && trial.was[who] - world.now.was[who] > 1) {
                return false;
            }
        }
        return true;
    }

    public int allIt() {
        if (!isHunted()) {
            return NONE;
        }
        tryFromNow();
        if (trial.allWereIt()) {
            return trial.step - 1;
        }
        for (int i = 0; i < LONG_LOOK; i++) {
            tryStep();
            if (trial.allWereIt()) {
                return trial.step - 1;
            }
        }
        return -2;
    }

    public int meet(int one, int other) {
        if (!areTwo(one, other)) {
            return NONE;
        }
        tryFromNow();
        for (int i = 0; i < LONG_LOOK; i++) {
            if (trial.run[one] == trial.run[other]) {
                return trial.step;
            }
            tryStep();
        }
        return -2;
    }

    private boolean areTwo(int one, int other) {
        return one != other && world.now.hasRider(one) && world.now.hasRider(other);
    }

    public int close(int n, int what) {
        if (!isHunted() || !within(n, 1, 100) || !within(what, 0, 2)) {
            return NONE;
        }
        int least = NOBODY_CLOSE;
        int who = -2;
        int when = -2;
        tryFromNow();
        for (int i = 0; i <= n; i++) {
            int nearest = trial.nearestRider();
            if (trial.hasRider(nearest) && trial.gapOf(nearest) < least) {
                least = trial.gapOf(nearest);
                who = nearest;
                when = trial.step;
            }
            tryStep();
        }
        if (what == 0) {
            return least;
        }
        return what == 1 ? who : when;
    }

    // ---- BUNCHES, PENCE, RESTS

    public int bunches(int what) {
        if (!isHunted() || !within(what, 0, 1)) {
            return NONE;
        }
        Chase now = world.now;
        int many = now.orderByRun(byRun);
        int bunches = 0;
        int bunch = 0;
        int largest = 0;
        for (int i = 0; i < many; i++) {
            if (i == 0 || now.run[byRun[i - 1]] - now.run[byRun[i]] > 2) {
                bunches++;
                bunch = 0;
            }
            bunch |= 1 << byRun[i];
            // The farthest ahead come first, so only a larger one takes its place.
            if (Integer.bitCount(bunch) > Integer.bitCount(largest)) {
                largest = bunch;
            }
        }
        return what == 0 ? bunches : largest;
    }

    public int pence(int much, int rider) {
        Chase now = world.now;
        if (!now.hasRider(rider) || !within(much, 0, 9999)) {
            return NONE;
        }
        int all = now.allTimesIt();
        if (all <= 0) {
            return 0;
        }
        int left = much;
        int before = 0;
        int lost = much * now.was[rider] % all;
        for (int i = 0; i < now.riders; i++) {
            left -= much * now.was[i] / all;
            int lostToo = much * now.was[i] % all;
            if (lostToo > lost || lostToo == lost && i < rider) {
                before++;
            }
        }
        return much * now.was[rider] / all + (before < left ? 1 : 0);
    }

    public int rests(int one, int other, int n, int what) {
        if (!areTwo(one, other) || !within(n, 1, 20) || !within(what, 0, 2)) {
            return NONE;
        }
        playAll(one, other, n);
        int rests = 0;
        int first = NONE;
        for (int i = 0; i < PLAYS * PLAYS; i++) {
            if (isRest(i / PLAYS, i % PLAYS)) {
                if (rests == 0) {
                    first = i;
                }
                rests++;
            }
        }
        if (what == 0) {
            return rests;
        }
        if (first == NONE) {
            return -2;
        }
        return paceOfPlay(what == 1 ? first / PLAYS : first % PLAYS);
    }

    private static int paceOfPlay(int play) {
        return 2 * play + 1;
    }

    private void playAll(int one, int other, int n) {
        for (int i = 0; i < PLAYS * PLAYS; i++) {
            int paceOfOne = paceOfPlay(i / PLAYS);
            int paceOfOther = paceOfPlay(i % PLAYS);
            gainOfOne[i] = -(paceOfOne / 2);
            gainOfOther[i] = -(paceOfOther / 2);
            tryFromNow();
            trial.pace[one] = paceOfOne;
            trial.pace[other] = paceOfOther;
            for (int j = 0; j < n; j++) {
                int who = tryStep();
                if (who == one) {
                    gainOfOne[i] -= 5;
                } else if (who == other) {
                    gainOfOther[i] -= 5;
                }
            }
        }
    }

    private boolean isRest(int playOfOne, int playOfOther) {
        int here = playOfOne * PLAYS + playOfOther;
        for (int play = 0; play < PLAYS; play++) {
            if (gainOfOne[play * PLAYS + playOfOther] > gainOfOne[here]) {
                return false;
            }
            if (gainOfOther[playOfOne * PLAYS + play] > gainOfOther[here]) {
                return false;
            }
        }
        return true;
    }

    // ---- NOTES and what they say of the RULES

    public int note(int n, int rider, int far) {
        if (n == NONE) {
            world.notes.clear();
            return 0;
        }
        if (!within(n, 0, 60) || !world.now.hasRider(rider) || !within(far, 0, 9999)) {
            return -2;
        }
        return world.notes.add(n, rider, far) ? world.notes.many : -2;
    }

    public int ruled(int what) {
        if (!isHunted() || !within(what, 0, 1)) {
            return -3;
        }
        int many = judgeRules(0);
        if (what == 0) {
            return many;
        }
        for (int i = 0; i <= ruleCount; i++) {
            if (isSo[i]) {
                return i - 1;
            }
        }
        return -2;
    }

    public int look(int n, int what) {
        if (!isHunted() || !within(n, 0, 60) || !within(what, 0, 1)) {
            return NONE;
        }
        if (judgeRules(n) == 0 || world.now.riders == 0) {
            return -2;
        }
        int best = NONE;
        int fewest = MOST_RULES + 2;
        for (int rider = 0; rider < world.now.riders; rider++) {
            int alike = mostAlike(rider);
            if (alike < fewest) {
                fewest = alike;
                best = rider;
            }
        }
        return what == 0 ? best : fewest;
    }

    /** How many RULES, none among them, are so; how far RIDERS have run at STEP seen by each is kept. */
    private int judgeRules(int seen) {
        int many = 0;
        for (int i = 0; i <= ruleCount; i++) {
            isSo[i] = isSoBy(i, seen);
            if (isSo[i]) {
                many++;
            }
        }
        return many;
    }

    private boolean isSoBy(int place, int seen) {
        Rule rule = ruleOf(place - 1);
        int lastStep = Math.max(seen, world.notes.lastStep());
        trial.copyFrom(world.begun);
        for (int i = 0; i <= lastStep; i++) {
            if (!world.notes.areSo(trial)) {
                return false;
            }
            if (i == seen) {
                System.arraycopy(trial.run, 0, seenRuns, place * MOST_RIDERS, MOST_RIDERS);
            }
            stepper.take(trial, rule);
        }
        return true;
    }

    private int mostAlike(int rider) {
        int most = 0;
        for (int i = 0; i <= ruleCount; i++) {
            int alike = 0;
            for (int j = 0; j <= ruleCount; j++) {
                if (isSo[i] && isSo[j]
                        && seenRuns[i * MOST_RIDERS + rider] == seenRuns[j * MOST_RIDERS + rider]) {
                    alike++;
                }
            }
            most = Math.max(most, alike);
        }
        return most;
    }

    // ---- MORNINGS

    public int seed(int x) {
        if (x < 0) {
            return NONE;
        }
        int was = world.x;
        world.x = x;
        return was;
    }

    public int mornings(int m, int n, int p, int what) {
        if (!isHunted() || !within(m, 1, 10) || !within(n, 1, 60)) {
            return NONE;
        }
        if (!within(p, 0, 100) || !within(what, 0, 1)) {
            return NONE;
        }
        int x = world.x;
        int often = 0;
        int far = 0;
        for (int i = 0; i < m; i++) {
            tryFromNow();
            for (int j = 0; j < n; j++) {
                x = stumble(x, p);
                if (tryStep() != NONE) {
                    often++;
                }
            }
            far += trial.fox;
        }
        return what == 0 ? often : far;
    }

    /** One RIDER of the trial may stumble; the answer is x behind its DRAWS. */
    private int stumble(int x, int p) {
        int whether = nextX(x);
        if (draw(whether) % 100 >= p || trial.riders <= 0) {
            return whether;
        }
        int whom = nextX(whether);
        int rider = draw(whom) % trial.riders;
        if (trial.ground[rider] == 0) {
            trial.run[rider] = Math.max(0, trial.run[rider] - 2);
        }
        return whom;
    }

    private static int nextX(int x) {
        return (int) (x * 1103515245L + 12345L & 0x7FFFFFFFL);
    }

    private static int draw(int x) {
        return x / 65536;
    }

    // ---- IMAGES

    public int image(int k) {
        if (!within(k, 0, MOST_IMAGES - 1)) {
            return NONE;
        }
        images[k].copyFrom(world);
        imageMade[k] = true;
        return world.now.step;
    }

    public int back(int k) {
        if (!within(k, 0, MOST_IMAGES - 1) || !imageMade[k]) {
            return NONE;
        }
        world.copyFrom(images[k]);
        acts.clear();
        return world.now.step;
    }

    /** Where fox, riders and gates are: what ACTS change. Without a HUNT its round is 0. */
    private static final class Chase {
        private static final int START = 100;
        private static final int NO_GATE = 99;

        int round;
        int foxPace;
        int law;
        int riders;
        int fox;
        int step;
        /** Bit f is the gate at field f; a round has 60 fields at most. */
        long gates;
        final int[] run = new int[MOST_RIDERS];
        final int[] pace = new int[MOST_RIDERS];
        final int[] ground = new int[MOST_RIDERS];
        final int[] was = new int[MOST_RIDERS];

        void begin(int fieldsInRound, int paceOfFox, int stepsToGround) {
            round = fieldsInRound;
            foxPace = paceOfFox;
            law = stepsToGround;
            riders = 0;
            fox = START;
            step = 0;
            gates = 0;
            Arrays.fill(ground, 0);
            Arrays.fill(was, 0);
        }

        void addRider(int behindFox, int paceOfRider) {
            if (riders >= 0 && riders < MOST_RIDERS) {
                run[riders] = START - behindFox;
                pace[riders] = paceOfRider;
                riders++;
            }
        }

        void copyFrom(Chase other) {
            round = other.round;
            foxPace = other.foxPace;
            law = other.law;
            riders = other.riders;
            fox = other.fox;
            step = other.step;
            gates = other.gates;
            for (int i = 0; i < MOST_RIDERS; i++) {
                run[i] = other.run[i];
                pace[i] = other.pace[i];
                ground[i] = other.ground[i];
                was[i] = other.was[i];
            }
        }

        boolean hasRider(int rider) {
            return rider >= 0 && rider < riders && rider < MOST_RIDERS;
        }

        boolean hasField(int field) {
            return field >= 0 && field < round;
        }

        boolean isGate(int field) {
            return (gates >>> field & 1L) != 0;
        }

        void addGate(int field) {
            gates |= 1L << field;
        }

        void turnGate(int field) {
            gates ^= 1L << field;
        }

        int toNextGate() {
            if (gates == 0 || round <= 0) {
                return NO_GATE;
            }
            int field = fox % round;
            long ahead = gates >>> (field + 1);
            return ahead != 0 ? 1 + lowestBit(ahead) : round - field + lowestBit(gates);
        }

        private static int lowestBit(long bits) {
            return Long.bitCount((bits & -bits) - 1);
        }

        int gapOf(int rider) {
            return hasRider(rider) ? fox - run[rider] : 0;
        }

        int lastRider() {
            int found = NONE;
            for (int i = 0; i < riders; i++) {
                if (ground[i] == 0 && (found < 0 || run[i] <= run[found])) {
                    found = i;
                }
            }
            return found;
        }

        int nearestRider() {
            int found = NONE;
            for (int i = 0; i < riders; i++) {
                if (ground[i] == 0 && (found < 0 || run[i] > run[found])) {
                    found = i;
                }
            }
            return found;
        }

        /** Those not to ground, who has run most first; how many these are. */
        int orderByRun(int[] order) {
            int many = 0;
            for (int i = 0; i < riders && many < order.length; i++) {
                if (ground[i] == 0) {
                    int at = many;
                    while (at > 0 && run[order[at - 1]] < run[i]) {
                        order[at] = order[at - 1];
                        at--;
                    }
                    order[at] = i;
                    many++;
                }
            }
            return many;
        }

        int outBits() {
            int bits = 0;
            for (int i = 0; i < riders; i++) {
                if (ground[i] > 0) {
                    bits |= 1 << i;
                }
            }
            return bits;
        }

        int allTimesIt() {
            int times = 0;
            for (int i = 0; i < riders; i++) {
                times += was[i];
            }
            return times;
        }

        boolean allWereIt() {
            for (int i = 0; i < riders; i++) {
                if (was[i] == 0) {
                    return false;
                }
            }
            return true;
        }
    }

    /** Takes STEPS of any Chase by any RULE. */
    private static final class Stepper {
        private final long[] words = new long[Rule.WORDS];
        private final long[] stack = new long[Rule.MOST_STACK];
        private final int[] moves = new int[MOST_RIDERS];

        /** A RIDER who rides rowFields in place of what the RULE says; NONE: nobody does. */
        int rowRider = NONE;
        int rowFields;

        /** Who is IT; no RULE is null. */
        int take(Chase chase, Rule rule) {
            if (rule != null) {
                tellWordsOfAll(chase);
            }
            // All ride by how it is as the STEP begins, so nobody moves before all are reckoned.
            for (int i = 0; i < chase.riders; i++) {
                moves[i] = fieldsOf(chase, rule, i);
            }
            for (int i = 0; i < chase.riders; i++) {
                chase.run[i] += moves[i];
                if (chase.ground[i] > 0) {
                    chase.ground[i]--;
                }
            }
            int who = runFox(chase);
            chase.step++;
            return who;
        }

        private int fieldsOf(Chase chase, Rule rule, int rider) {
            int room = chase.fox - chase.run[rider];
            if (room <= 0 || chase.ground[rider] > 0) {
                return 0;
            }
            if (rider == rowRider) {
                return Math.min(rowFields, room);
            }
            int most = Math.min(chase.pace[rider], room);
            if (rule == null) {
                return most;
            }
            tellWordsOf(chase, rider);
            long fields = rule.fields(words, stack);
            return fields <= 0 ? 0 : (int) Math.min(fields, most);
        }

        private void tellWordsOfAll(Chase chase) {
            words[Rule.OUT] = Integer.bitCount(chase.outBits());
            words[Rule.GATE] = chase.toNextGate();
            words[Rule.FOXPACE] = chase.foxPace;
            words[Rule.LAW] = chase.law;
            words[Rule.STEP] = chase.step;
        }

        private void tellWordsOf(Chase chase, int rider) {
            int run = chase.run[rider];
            int behind = 0;
            int level = 0;
            for (int i = 0; i < chase.riders; i++) {
                if (i != rider && chase.ground[i] == 0) {
                    if (chase.run[i] < run) {
                        behind++;
                    } else if (chase.run[i] == run) {
                        level++;
                    }
                }
            }
            words[Rule.RIDER] = rider;
            words[Rule.PACE] = chase.pace[rider];
            words[Rule.GAP] = chase.fox - run;
            words[Rule.BEHIND] = behind;
            words[Rule.LEVEL] = level;
            words[Rule.WAS] = chase.was[rider];
        }

        private static int runFox(Chase chase) {
            int toGate = chase.toNextGate();
            if (toGate > chase.foxPace) {
                chase.fox += chase.foxPace;
                return NONE;
            }
            chase.fox += toGate;
            int who = chase.lastRider();
            if (chase.hasRider(who)) {
                chase.ground[who] = chase.law;
                chase.was[who]++;
            }
            return who;
        }
    }

    /** All rows of fields that one RIDER can ride, each begun with the least. */
    private static final class RowSearch {
        /** More than any row brings. */
        private static final int BEYOND_ALL = 1000000;

        private final Stepper stepper;
        private final Chase[] behind = new Chase[MOST_ROW + 1];
        private Rule rule;
        private int rider;
        private int steps;
        private int timesBefore;
        private int first;

        int bestTimes;
        int bestRun;
        int bestFirst;

        RowSearch(Stepper stepper) {
            this.stepper = stepper;
            for (int i = 0; i <= MOST_ROW; i++) {
                behind[i] = new Chase();
            }
        }

        void find(Chase now, Rule ruleInForce, int who, int n) {
            if (!now.hasRider(who)) {
                return;
            }
            rule = ruleInForce;
            rider = who;
            steps = Math.min(n, MOST_ROW);
            timesBefore = now.was[who];
            bestTimes = BEYOND_ALL;
            bestRun = BEYOND_ALL;
            bestFirst = 0;
            behind[0].copyFrom(now);
            stepper.rowRider = who;
            search(0);
            stepper.rowRider = NONE;
        }

        private void search(int depth) {
            Chase here = behind[depth];
            if (isNoBetter(here)) {
                return;
            }
            if (depth >= steps || depth >= MOST_ROW) {
                bestTimes = here.was[rider] - timesBefore;
                bestRun = here.run[rider];
                bestFirst = first;
                return;
            }
            int most = mostFields(here);
            for (int fields = 0; fields <= most; fields++) {
                if (depth == 0) {
                    first = fields;
                }
                Chase next = behind[depth + 1];
                next.copyFrom(here);
                stepper.rowFields = fields;
                stepper.take(next, rule);
                search(depth + 1);
            }
        }

        /** Times and run never shrink along a row, and of alike ones the earlier row stays. */
        private boolean isNoBetter(Chase here) {
            int times = here.was[rider] - timesBefore;
            return times > bestTimes || times == bestTimes && here.run[rider] >= bestRun;
        }

        /** A number beyond this goes as far as a lesser one, which comes first. */
        private int mostFields(Chase here) {
            return here.ground[rider] > 0 ? 0 : Math.min(here.pace[rider], here.gapOf(rider));
        }
    }

    /** A RULE, each SUM and TEST of which is a run of codes, operators behind what they join. */
    private static final class Rule {
        static final int RIDER = 0;
        static final int PACE = 1;
        static final int GAP = 2;
        static final int BEHIND = 3;
        static final int LEVEL = 4;
        static final int OUT = 5;
        static final int WAS = 6;
        static final int GATE = 7;
        static final int FOXPACE = 8;
        static final int LAW = 9;
        static final int STEP = 10;
        static final int WORDS = 11;

        static final int ADD = 11;
        static final int TAKE = 12;
        static final int TIMES = 13;
        static final int PARTS = 14;
        static final int REST = 15;
        static final int LESS = 16;
        static final int LESS_OR_LIKE = 17;
        static final int LIKE = 18;
        static final int MORE_OR_LIKE = 19;
        static final int MORE = 20;
        static final int AND = 21;
        static final int OR = 22;
        static final int NOT = 23;

        /** Ten deep, two joined at each depth, and a SUM: well below this. */
        static final int MOST_STACK = 64;

        /** 0 and above: a NUMBER; below: ~ a word or an operator. */
        private final int[] codes;
        private final int clauses;
        /** Of CLAUSE k the SUM stands from sums[k] to tests[k], the TEST from there to sums[k + 1]. */
        private final int[] sums;
        private final int[] tests;

        Rule(int[] codes, int[] sums, int[] tests, int clauses) {
            this.codes = codes;
            this.sums = sums;
            this.tests = tests;
            this.clauses = clauses;
        }

        long fields(long[] words, long[] stack) {
            for (int i = 0; i < clauses && i + 1 < sums.length && i < tests.length; i++) {
                boolean isAlways = tests[i] == sums[i + 1];
                if (isAlways || reckon(tests[i], sums[i + 1], words, stack) != 0) {
                    return reckon(sums[i], tests[i], words, stack);
                }
            }
            return 0;
        }

        private long reckon(int from, int to, long[] words, long[] stack) {
            int top = -1;
            for (int i = from; i < to && i >= 0 && i < codes.length; i++) {
                int code = codes[i];
                if (code >= ~STEP) {
                    top++;
                    if (top >= stack.length) {
                        return 0;
                    }
                    stack[top] = code >= 0 ? code : words[~code];
                } else if (code == ~NOT) {
                    if (top < 0) {
                        return 0;
                    }
                    stack[top] = 1 - stack[top];
                } else {
                    if (top < 1) {
                        return 0;
                    }
                    top--;
                    stack[top] = join(~code, stack[top], stack[top + 1]);
                }
            }
            return top < 0 ? 0 : stack[top];
        }

        private static long join(int operator, long a, long b) {
            switch (operator) {
                case ADD:
                    return a + b;
                case TAKE:
                    return a - b;
                case TIMES:
                    return a * b;
                case PARTS:
                    return b == 0 ? 0 : a / b;
                case REST:
                    return b == 0 ? 0 : a % b;
                case LESS:
                    return a < b ? 1 : 0;
                case LESS_OR_LIKE:
                    return a <= b ? 1 : 0;
                case LIKE:
                    return a == b ? 1 : 0;
                case MORE_OR_LIKE:
                    return a >= b ? 1 : 0;
                case MORE:
                    return a > b ? 1 : 0;
                case AND:
                    return a & b;
                default:
                    return a | b;
            }
        }
    }

    /** The TAPE, sign by sign. */
    private static final class Signs {
        static final int END = 0;
        static final int OTHER = 1;
        static final int WORD = 2;
        static final int NUMBER = 3;
        static final int SEMICOLON = 4;
        static final int OPENING = 5;
        static final int CLOSING = 6;
        static final int OPERATOR = 7;
        static final int COMPARE = 8;

        static final int MOST_DIGITS = 5;

        static final int BAD_SIGN = 0;
        static final int BAD_NUMBER = 1;
        static final int TOO_DEEP = 2;
        static final int TOO_MANY = 3;
        static final int BAD_CLAUSE = 4;

        private final byte[] text;
        private int length;
        private int next;

        int kind;
        int place;
        /** Of a NUMBER its first five digits, of an operator which one. */
        int value;

        Signs(byte[] text) {
            this.text = text;
        }

        void begin(int bytes) {
            length = Math.max(0, Math.min(bytes, text.length));
            next = 0;
        }

        int faultHere(int which) {
            return 1 + 8 * place + which;
        }

        void read() {
            while (next < length && text[next] == ' ') {
                next++;
            }
            place = next;
            value = 0;
            if (next >= length) {
                kind = END;
                return;
            }
            int sign = text[next];
            if (isDigit(sign)) {
                readNumber();
            } else if (isLetter(sign)) {
                readWord();
            } else {
                next++;
                readMark(sign);
            }
        }

        private static boolean isDigit(int sign) {
            return sign >= '0' && sign <= '9';
        }

        private static boolean isLetter(int sign) {
            return sign >= 'a' && sign <= 'z';
        }

        private void readNumber() {
            kind = NUMBER;
            while (next < length && isDigit(text[next])) {
                if (next - place < MOST_DIGITS) {
                    value = value * 10 + text[next] - '0';
                }
                next++;
            }
        }

        private void readWord() {
            kind = WORD;
            while (next < length && isLetter(text[next])) {
                next++;
            }
        }

        private void readMark(int sign) {
            switch (sign) {
                case ';':
                    kind = SEMICOLON;
                    return;
                case '[':
                    kind = OPENING;
                    return;
                case ']':
                    kind = CLOSING;
                    return;
                case '+':
                    markOperator(Rule.ADD);
                    return;
                case '-':
                    markOperator(Rule.TAKE);
                    return;
                case '*':
                    markOperator(Rule.TIMES);
                    return;
                case '/':
                    markOperator(Rule.PARTS);
                    return;
                case '%':
                    markOperator(Rule.REST);
                    return;
                case '=':
                    markCompare(Rule.LIKE);
                    return;
                case '<':
                    markCompare(takesLike() ? Rule.LESS_OR_LIKE : Rule.LESS);
                    return;
                case '>':
                    markCompare(takesLike() ? Rule.MORE_OR_LIKE : Rule.MORE);
                    return;
                default:
                    kind = OTHER;
            }
        }

        private void markOperator(int operator) {
            kind = OPERATOR;
            value = operator;
        }

        private void markCompare(int operator) {
            kind = COMPARE;
            value = operator;
        }

        private boolean takesLike() {
            if (next < length && text[next] == '=') {
                next++;
                return true;
            }
            return false;
        }

        boolean isTooLong() {
            return next - place > MOST_DIGITS;
        }

        boolean isWord(String word) {
            int letters = word.length();
            if (kind != WORD || next - place != letters) {
                return false;
            }
            for (int i = 0; i < letters && place + i < text.length; i++) {
                if (text[place + i] != word.charAt(i)) {
                    return false;
                }
            }
            return true;
        }
    }

    /** Reads a HUNT. */
    private static final class HuntReader {
        private static final int MOST_CLAUSES = 40;

        private final Signs signs;
        private int fault;

        final Chase told = new Chase();

        HuntReader(Signs signs) {
            this.signs = signs;
        }

        /** The FAULT; 0: none, and told is the HUNT as it begins. */
        int read(int length) {
            signs.begin(length);
            fault = 0;
            told.begin(0, 0, 0);
            // One more than may stand there, so that its place can be told.
            for (int clause = 0; clause <= MOST_CLAUSES; clause++) {
                readClause(clause);
                if (fault != 0) {
                    return fault;
                }
                signs.read();
                if (signs.kind == Signs.END) {
                    return 0;
                }
                if (signs.kind != Signs.SEMICOLON) {
                    return signs.faultHere(Signs.BAD_SIGN);
                }
            }
            return signs.faultHere(Signs.BAD_CLAUSE);
        }

        private void readClause(int clause) {
            signs.read();
            boolean isFox = signs.isWord("fox");
            boolean isRider = signs.isWord("rider");
            boolean isGate = signs.isWord("gate");
            if (!isFox && !isRider && !isGate) {
                fault = signs.faultHere(Signs.BAD_SIGN);
                return;
            }
            boolean isFirst = clause == 0;
            if (isFox != isFirst || clause >= MOST_CLAUSES || isRider && told.riders >= MOST_RIDERS) {
                fault = signs.faultHere(Signs.BAD_CLAUSE);
            } else if (isFox) {
                readFox();
            } else if (isRider) {
                readRider();
            } else {
                readGate();
            }
        }

        private void readFox() {
            int round = readNumber(2, 60);
            int pace = readNumber(1, MOST_PACE);
            int law = readNumber(0, 9);
            if (fault == 0) {
                told.begin(round, pace, law);
            }
        }

        private void readRider() {
            int start = readNumber(0, 99);
            int pace = readNumber(1, MOST_PACE);
            if (fault == 0) {
                told.addRider(start, pace);
            }
        }

        private void readGate() {
            int field = readNumber(0, told.round - 1);
            if (fault == 0) {
                told.addGate(field);
            }
        }

        /** Behind a FAULT nothing more is read, so that the first one stays. */
        private int readNumber(int least, int most) {
            if (fault != 0) {
                return 0;
            }
            signs.read();
            if (signs.kind != Signs.NUMBER) {
                fault = signs.faultHere(Signs.BAD_SIGN);
            } else if (signs.isTooLong() || signs.value < least || signs.value > most) {
                fault = signs.faultHere(Signs.BAD_NUMBER);
            }
            return signs.value;
        }
    }

    /** Reads a RULE; operators wait on a stack until what they join has been read. */
    private static final class RuleReader {
        private static final int MOST_CLAUSES = 12;
        private static final int MOST_DEEP = 10;
        private static final int MOST_PARTS = 60;
        private static final int MOST_WAITING = 64;
        private static final int NO_FAULT = -1;

        /** A bracket waits among the operators, but joins nothing. */
        private static final int BRACKET = 24;

        private static final int IF = 25;
        private static final int RIDE = 26;
        private static final int KNOWN_WORDS = 27;

        /** How tightly the operators from ADD on bind: the SUM's, the SIGNS, and, or, not, [. */
        private static final int[] BINDS = {5, 5, 6, 6, 6, 4, 4, 4, 4, 4, 2, 1, 3, 0};
        private static final int LOOSEST = 1;

        private static final int WANT_CLAUSE = 0;
        private static final int WANT_VALUE = 1;
        private static final int WANT_FACT = 2;
        private static final int BEHIND_RIDE = 3;
        private static final int BEHIND_LEFT = 4;
        private static final int BEHIND_FACT = 5;
        private static final int ENDED = 6;

        private final Signs signs;
        private final int[] codes = new int[MOST_BYTES];
        private final int[] sums = new int[MOST_CLAUSES + 1];
        private final int[] tests = new int[MOST_CLAUSES];
        private final int[] waiting = new int[MOST_WAITING];
        private int codeCount;
        private int clauses;
        private int waitingCount;
        private int deep;
        private int brackets;
        private int parts;
        private int word;
        private int want;
        /** What is wanted behind the SUM that is being read. */
        private int wantBehindSum;
        /** Behind a bracket no SUM can go on. */
        private boolean isBehindValue;

        RuleReader(Signs signs) {
            this.signs = signs;
        }

        Rule made() {
            return new Rule(Arrays.copyOf(codes, codeCount), Arrays.copyOf(sums, clauses + 1),
                    Arrays.copyOf(tests, clauses), clauses);
        }

        /** The FAULT; 0: none, and made makes the RULE. */
        int read(int length) {
            signs.begin(length);
            codeCount = 0;
            clauses = 0;
            waitingCount = 0;
            deep = 0;
            brackets = 0;
            parts = 0;
            isBehindValue = false;
            want = WANT_CLAUSE;
            // Each sign has a byte or more, and one more is the end.
            for (int i = 0; i <= MOST_BYTES && want != ENDED; i++) {
                signs.read();
                word = wordHere();
                int which = readSign();
                if (which != NO_FAULT) {
                    return signs.faultHere(which);
                }
            }
            return 0;
        }

        private int readSign() {
            boolean goesOn = isBehindValue && signs.kind == Signs.OPERATOR;
            isBehindValue = false;
            if (goesOn) {
                join(signs.value);
                want = WANT_VALUE;
                return NO_FAULT;
            }
            switch (want) {
                case WANT_CLAUSE:
                    return readClause();
                case WANT_VALUE:
                    return readValue();
                case WANT_FACT:
                    return readFact();
                case BEHIND_RIDE:
                    return readBehindRide();
                case BEHIND_LEFT:
                    return readCompare();
                default:
                    return readBehindFact();
            }
        }

        private int readClause() {
            if (word != RIDE) {
                return Signs.BAD_SIGN;
            }
            if (clauses >= MOST_CLAUSES) {
                return Signs.BAD_CLAUSE;
            }
            sums[clauses] = codeCount;
            want = WANT_VALUE;
            wantBehindSum = BEHIND_RIDE;
            return NO_FAULT;
        }

        private int readValue() {
            boolean isNumber = signs.kind == Signs.NUMBER;
            if (!isNumber && (word < 0 || word >= Rule.WORDS)) {
                return Signs.BAD_SIGN;
            }
            if (isNumber && signs.isTooLong()) {
                return Signs.BAD_NUMBER;
            }
            if (parts >= MOST_PARTS) {
                return Signs.TOO_MANY;
            }
            parts++;
            put(isNumber ? signs.value : ~word);
            want = wantBehindSum;
            isBehindValue = true;
            return NO_FAULT;
        }

        private int readFact() {
            boolean isNot = word == Rule.NOT;
            boolean isBracket = signs.kind == Signs.OPENING;
            if (!isNot && !isBracket) {
                wantBehindSum = BEHIND_LEFT;
                return readValue();
            }
            if (deep >= MOST_DEEP) {
                return Signs.TOO_DEEP;
            }
            deep++;
            if (isBracket) {
                brackets++;
            }
            lay(isNot ? Rule.NOT : BRACKET);
            return NO_FAULT;
        }

        private int readCompare() {
            if (signs.kind != Signs.COMPARE) {
                return Signs.BAD_SIGN;
            }
            if (parts >= MOST_PARTS) {
                return Signs.TOO_MANY;
            }
            parts++;
            join(signs.value);
            want = WANT_VALUE;
            wantBehindSum = BEHIND_FACT;
            return NO_FAULT;
        }

        private int readBehindRide() {
            if (word == IF) {
                endSum();
                want = WANT_FACT;
                return NO_FAULT;
            }
            if (signs.kind != Signs.SEMICOLON && signs.kind != Signs.END) {
                return Signs.BAD_SIGN;
            }
            endSum();
            endClause();
            return NO_FAULT;
        }

        private int readBehindFact() {
            if (word == Rule.AND || word == Rule.OR) {
                join(word);
                want = WANT_FACT;
                return NO_FAULT;
            }
            if (signs.kind == Signs.CLOSING && brackets > 0) {
                putTighter(LOOSEST);
                takeBracket();
                want = BEHIND_FACT;
                return NO_FAULT;
            }
            boolean isEnd = signs.kind == Signs.SEMICOLON || signs.kind == Signs.END;
            if (!isEnd || brackets > 0) {
                return Signs.BAD_SIGN;
            }
            putTighter(LOOSEST);
            endClause();
            return NO_FAULT;
        }

        private void endSum() {
            putTighter(LOOSEST);
            if (clauses < MOST_CLAUSES) {
                tests[clauses] = codeCount;
            }
        }

        private void endClause() {
            if (clauses < MOST_CLAUSES) {
                clauses++;
                sums[clauses] = codeCount;
            }
            want = signs.kind == Signs.END ? ENDED : WANT_CLAUSE;
        }

        private void join(int operator) {
            putTighter(bindsOf(operator));
            lay(operator);
        }

        private void lay(int operator) {
            if (waitingCount >= 0 && waitingCount < MOST_WAITING) {
                waiting[waitingCount] = operator;
                waitingCount++;
            }
        }

        /** Puts what waits and binds as tightly or more, up to a bracket. */
        private void putTighter(int binds) {
            while (waitingCount > 0 && bindsOf(waiting[waitingCount - 1]) >= binds) {
                waitingCount--;
                if (waiting[waitingCount] == Rule.NOT) {
                    deep--;
                }
                put(~waiting[waitingCount]);
            }
        }

        private void takeBracket() {
            if (waitingCount > 0) {
                waitingCount--;
                brackets--;
                deep--;
            }
        }

        private static int bindsOf(int operator) {
            int at = operator - Rule.ADD;
            return at >= 0 && at < BINDS.length ? BINDS[at] : 0;
        }

        private void put(int code) {
            if (codeCount >= 0 && codeCount < MOST_BYTES) {
                codes[codeCount] = code;
                codeCount++;
            }
        }

        private int wordHere() {
            for (int i = 0; i < KNOWN_WORDS && signs.kind == Signs.WORD; i++) {
                if (signs.isWord(textOf(i))) {
                    return i;
                }
            }
            return NONE;
        }

        /** Empty where no word bears that number. */
        private static String textOf(int which) {
            switch (which) {
                case Rule.RIDER:
                    return "rider";
                case Rule.PACE:
                    return "pace";
                case Rule.GAP:
                    return "gap";
                case Rule.BEHIND:
                    return "behind";
                case Rule.LEVEL:
                    return "level";
                case Rule.OUT:
                    return "out";
                case Rule.WAS:
                    return "was";
                case Rule.GATE:
                    return "gate";
                case Rule.FOXPACE:
                    return "foxpace";
                case Rule.LAW:
                    return "law";
                case Rule.STEP:
                    return "step";
                case Rule.AND:
                    return "and";
                case Rule.OR:
                    return "or";
                case Rule.NOT:
                    return "not";
                case IF:
                    return "if";
                case RIDE:
                    return "ride";
                default:
                    return "";
            }
        }
    }

    /** What was told of RIDERS at the begin of STEPS. */
    private static final class Notes {
        int many;
        private final int[] steps = new int[MOST_NOTES];
        private final int[] riders = new int[MOST_NOTES];
        private final int[] fars = new int[MOST_NOTES];

        void clear() {
            many = 0;
        }

        boolean add(int step, int rider, int far) {
            if (many < 0 || many >= MOST_NOTES) {
                return false;
            }
            steps[many] = step;
            riders[many] = rider;
            fars[many] = far;
            many++;
            return true;
        }

        int lastStep() {
            int latest = 0;
            for (int i = 0; i < many; i++) {
                latest = Math.max(latest, steps[i]);
            }
            return latest;
        }

        /** Whether all that was told of the STEP that now begins is so. */
        boolean areSo(Chase chase) {
            for (int i = 0; i < many; i++) {
                if (steps[i] == chase.step && chase.hasRider(riders[i])
                        && chase.run[riders[i]] != fars[i]) {
                    return false;
                }
            }
            return true;
        }

        void copyFrom(Notes other) {
            many = other.many;
            for (int i = 0; i < MOST_NOTES; i++) {
                steps[i] = other.steps[i];
                riders[i] = other.riders[i];
                fars[i] = other.fars[i];
            }
        }
    }

    /** All that an IMAGE holds. */
    private static final class World {
        final Chase begun = new Chase();
        final Chase now = new Chase();
        final Notes notes = new Notes();
        int force = NONE;
        int x;

        void copyFrom(World other) {
            begun.copyFrom(other.begun);
            now.copyFrom(other.now);
            notes.copyFrom(other.notes);
            force = other.force;
            x = other.x;
        }
    }

    /** How all was ahead of the last ACTS, the oldest of which gives way to a new one. */
    private static final class Acts {
        private static final int MOST = 20;

        private final Chase[] kept = new Chase[MOST];
        private int next;
        int many;

        Acts() {
            for (int i = 0; i < MOST; i++) {
                kept[i] = new Chase();
            }
        }

        void clear() {
            many = 0;
        }

        void keep(Chase chase) {
            kept[next].copyFrom(chase);
            next = (next + 1) % MOST;
            many = Math.min(many + 1, MOST);
        }

        void takeBack(Chase chase) {
            if (many > 0) {
                next = (next + MOST - 1) % MOST;
                chase.copyFrom(kept[next]);
                many--;
            }
        }
    }
}
