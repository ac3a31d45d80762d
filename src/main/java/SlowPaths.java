/**
 * Tests for slow paths: a circuit of inputs and gates with delays, pairs of patterns that
 * send an edge down a path, and what such pairs tell of the delays. The words in capital
 * letters are those of the document.
 */
public final class SlowPaths {
    public static final int UNKNOWN = -1, OUTSIDE = -2, STATE = -3, FULL = -4, NONE = -9;

    private static final int MOST_LETTERS = 40;
    private static final int MOST_INPUTS = 4;
    private static final int MOST_GATES = 8;
    /** With eight gates the paths to each gate grow as 2, 3, 5, 8, 13, 21, 34, 55 at most. */
    private static final int MOST_PATHS = 55;
    private static final int MOST_ACTS = 14;
    private static final int MOST_SEEN = 6;
    private static final int MOST_DELAY = 9;
    private static final int MOST_TIME = 99;
    private static final int MOST_DOINGS = 4;
    private static final int MOST_DRAWS = 20;
    private static final int SLOTS = 2;
    private static final int PATTERNS = 16;
    private static final int PAIRS = 256;

    /** A SIGNAL is told as an INPUT's number, or as this and a GATE's number. */
    private static final int FIRST_GATE = 10;
    private static final int SIGNALS = FIRST_GATE + MOST_GATES;

    private static final int AND = 0, OR = 1, NAND = 2, NOR = 3, NOT = 4;

    private static final int CHANCE_WHOLE = 10;
    private static final int CHANCE_DELAY = 3;
    private static final long DRAW_TIMES = 6364136223846793005L;
    private static final long DRAW_AND = 1442695040888963407L;
    private static final int[] ORDERS = {1, 1, 2, 6, 24, 120, 720, 5040, 40320};

    private final Script script = new Script();
    private final Acts acts = new Acts();
    private final Sightings sightings = new Sightings();
    private final Setting now = new Setting();
    private final Setting trial = new Setting();
    private final Setting[] slots = new Setting[SLOTS];
    private final Levels levels = new Levels();
    private final PairTable table = new PairTable();
    private final Waves waves = new Waves();
    private final Spans spans = new Spans();
    private Net net = new Net();
    private Net draft = new Net();
    private long lastDraw = 0;

    public SlowPaths() {
        for (int i = 0; i < SLOTS; i++) {
            slots[i] = new Setting();
        }
    }

    // ---- the circuit

    public int write(int letter) {
        if (letter < 0 || letter > 255) {
            return OUTSIDE;
        }
        if (script.size >= MOST_LETTERS) {
            return FULL;
        }
        script.letters[script.size] = letter;
        script.size++;
        return script.size;
    }

    public int wipe() {
        int was = script.size;
        script.size = 0;
        return was;
    }

    public int fault() {
        return script.readInto(draft);
    }

    public int circuit() {
        if (script.readInto(draft) != NONE) {
            return STATE;
        }
        Net old = net;
        net = draft;
        draft = old;
        net.numberPaths();
        now.begin(net);
        acts.size = 0;
        table.forget();
        for (int i = 0; i < SLOTS; i++) {
            slots[i].held = false;
        }
        return net.paths;
    }

    public int gate(int gate, int what) {
        if (!net.hasGate(gate)) {
            return UNKNOWN;
        }
        switch (what) {
            case 0:
                return now.kinds[gate];
            case 1:
                return net.lefts[gate];
            case 2:
                return net.rights[gate];
            case 3:
                return now.delays[gate];
            default:
                return OUTSIDE;
        }
    }

    // ---- acts

    public int slow(int gate, int delay) {
        if (!net.hasGate(gate)) {
            return UNKNOWN;
        }
        if (delay < 1 || delay > MOST_DELAY) {
            return OUTSIDE;
        }
        int was = now.delays[gate];
        acts.add(gate, false, was);
        now.delays[gate] = delay;
        return was;
    }

    public int turn(int gate, int kind) {
        if (!net.hasGate(gate)) {
            return UNKNOWN;
        }
        if (kind < AND || kind > NOR) {
            return OUTSIDE;
        }
        int was = now.kinds[gate];
        if (was == NOT || was == kind) {
            return STATE;
        }
        acts.add(gate, true, was);
        now.kinds[gate] = kind;
        return was;
    }

    public int undo() {
        if (acts.size <= 0) {
            return STATE;
        }
        acts.size--;
        acts.takeBack(now, acts.size);
        return acts.size;
    }

    // ---- paths

    public int path(int path, int what) {
        if (!net.hasPath(path)) {
            return UNKNOWN;
        }
        if (what < 0) {
            return OUTSIDE;
        }
        switch (what) {
            case 0:
                return net.starts[path];
            case 1:
                return net.sizes[path];
            case 2:
                return net.lengthOf(path, now.delays);
            default:
                return net.stepOf(path, what - 3);
        }
    }

    public int longest(int what) {
        if (what < 0 || what > 1) {
            return OUTSIDE;
        }
        int greatest = NONE;
        int first = NONE;
        for (int p = 0; p < net.paths; p++) {
            int length = net.lengthOf(p, now.delays);
            if (length > greatest) {
                greatest = length;
                first = p;
            }
        }
        return what == 0 ? greatest : first;
    }

    // ---- tests

    public int value(int gate, int pair) {
        if (!net.hasGate(gate)) {
            return UNKNOWN;
        }
        if (!net.hasPair(pair)) {
            return OUTSIDE;
        }
        levels.settle(net, now.kinds, pair);
        return levels.of[FIRST_GATE + gate];
    }

    public int tests(int path, int pair) {
        if (!net.hasPath(path)) {
            return UNKNOWN;
        }
        if (!net.hasPair(pair)) {
            return OUTSIDE;
        }
        levels.settle(net, now.kinds, pair);
        return levels.howFar(net, path);
    }

    public int best(int path, int rises, int how, int what) {
        if (!net.hasPath(path)) {
            return UNKNOWN;
        }
        if (rises < 0 || rises > 1 || how < 0 || how > 2 || what < 0 || what > 1) {
            return OUTSIDE;
        }
        table.fitTo(net, now.kinds);
        int least = NONE;
        int many = 0;
        for (int pair = 0; pair < PAIRS; pair++) {
            if (table.provesPath(pair, path, rises) && table.isLaunched(net, how, pair)) {
                least = many == 0 ? pair : least;
                many++;
            }
        }
        return what == 0 ? least : many;
    }

    public int pruned() {
        table.fitTo(net, now.kinds);
        return table.deadBeginnings(net);
    }

    public int packed(int how, int i) {
        if (how < 0 || how > 2 || i < -1) {
            return OUTSIDE;
        }
        table.fitTo(net, now.kinds);
        return table.pack(net, how, i);
    }

    // ---- waves

    public int wave(int gate, int pair, int t) {
        if (!net.hasGate(gate)) {
            return UNKNOWN;
        }
        if (!net.hasPair(pair) || t < 0 || t > MOST_TIME) {
            return OUTSIDE;
        }
        waves.run(net, now.kinds, now.delays, pair);
        return waves.at(FIRST_GATE + gate, t);
    }

    public int late(int pair, int t) {
        if (!net.hasPair(pair) || t < 0 || t > MOST_TIME) {
            return OUTSIDE;
        }
        if (net.gates == 0) {
            return STATE;
        }
        waves.run(net, now.kinds, now.delays, pair);
        return waves.isLate(net, t) ? 1 : 0;
    }

    public int judge(int n, long row) {
        if (n < 1 || n > MOST_DOINGS) {
            return OUTSIDE;
        }
        long unit = 1;
        for (int i = 0; i < n; i++) {
            unit *= 10000;
        }
        if (row < 0 || row >= unit) {
            return OUTSIDE;
        }
        trial.copyFrom(now);
        for (int i = 0; i < n; i++) {
            unit /= 10000;
            // the unit ends at 1; the guard keeps the divisor from ever being 0
            int doing = (int) (row / Math.max(unit, 1L) % 10000);
            if (!canBe(doing)) {
                return i;
            }
        }
        return NONE;
    }

    // ---- seen

    public int see(int pair, int t, int late) {
        if (pair < 0 || pair >= PAIRS || t < 0 || t > MOST_TIME || late < 0 || late > 1) {
            return OUTSIDE;
        }
        if (sightings.size >= MOST_SEEN) {
            return FULL;
        }
        sightings.add(pair, t, late);
        return sightings.size;
    }

    public int unsee() {
        int was = sightings.size;
        sightings.size = 0;
        return was;
    }

    public int slower(int what) {
        if (what < 0 || what > 1) {
            return OUTSIDE;
        }
        int first = NONE;
        int many = 0;
        trial.copyFrom(now);
        for (int g = 0; g < net.gates; g++) {
            for (int more = 1; more <= MOST_DELAY; more++) {
                trial.delays[g] = now.delays[g] + more;
                if (agreesWithSeen()) {
                    first = many == 0 ? 10 * g + more : first;
                    many++;
                }
            }
            trial.delays[g] = now.delays[g];
        }
        return what == 0 ? many : first;
    }

    // ---- shares, chances

    public int share(int gate, boolean upper) {
        if (!net.hasGate(gate)) {
            return UNKNOWN;
        }
        int together = 0;
        int all = 1 << net.gates;
        for (int come = 0; come < all; come++) {
            if (((come >> gate) & 1) == 0) {
                int ahead = Integer.bitCount(come);
                int more = spans.greatest(net, now.delays, come | (1 << gate))
                        - spans.greatest(net, now.delays, come);
                together += more * ordersOf(ahead) * ordersOf(net.gates - 1 - ahead);
            }
        }
        return fraction(together, ordersOf(net.gates), upper);
    }

    public int slows(int pair, int t, int x, boolean upper) {
        if (!net.hasPair(pair) || t < 0 || t > MOST_TIME || x < 0 || x > CHANCE_WHOLE) {
            return OUTSIDE;
        }
        if (net.gates == 0) {
            return STATE;
        }
        trial.copyFrom(now);
        int above = 0;
        int all = 1 << net.gates;
        for (int slowed = 0; slowed < all; slowed++) {
            int weight = chanceOf(slowed, x);
            if (weight > 0) {
                slowTrial(slowed);
                waves.run(net, trial.kinds, trial.delays, pair);
                above += waves.isLate(net, t) ? weight : 0;
            }
        }
        int below = 1;
        for (int g = 0; g < net.gates; g++) {
            below *= CHANCE_WHOLE;
        }
        return fraction(above, below, upper);
    }

    public long seed(long v) {
        long was = lastDraw;
        lastDraw = v;
        return was;
    }

    public int drawn(int m) {
        if (m < 1 || m > MOST_DRAWS) {
            return OUTSIDE;
        }
        int together = 0;
        for (int i = 0; i < m; i++) {
            lastDraw = lastDraw * DRAW_TIMES + DRAW_AND;
            int upperBits = (int) (lastDraw >>> 33);
            int first = upperBits % 16;
            int second = upperBits / 16 % 16;
            levels.settle(net, now.kinds, net.pairWithin(first * 16 + second));
            for (int p = 0; p < net.paths; p++) {
                together += levels.howFar(net, p);
            }
        }
        return together;
    }

    // ---- slots

    public int keep(int slot) {
        if (slot < 0 || slot >= SLOTS) {
            return UNKNOWN;
        }
        slots[slot].copyFrom(now);
        slots[slot].held = true;
        return net.gates;
    }

    public int again(int slot) {
        if (slot < 0 || slot >= SLOTS) {
            return UNKNOWN;
        }
        if (!slots[slot].held) {
            return STATE;
        }
        now.copyFrom(slots[slot]);
        acts.size = 0;
        return net.gates;
    }

    public int count(int what) {
        switch (what) {
            case 0:
                return script.size;
            case 1:
                return net.inputs;
            case 2:
                return net.gates;
            case 3:
                return net.paths;
            case 4:
                table.fitTo(net, now.kinds);
                return table.provenPaths();
            case 5:
                return now.delaysTogether(net);
            case 6:
                return acts.size;
            case 7:
                return sightings.size;
            case 8:
            case 9:
            case 10:
            case 11:
                return what - 8 < net.inputs ? net.nexts[what - 8] : NONE;
            default:
                return OUTSIDE;
        }
    }

    // ---- what the calls share

    /** Whether a told doing of four figures can be, or is so, by the trial; it changes the trial alone. */
    private boolean canBe(int doing) {
        int middle = doing / 10 % 100;
        int low = doing % 10;
        switch (doing / 1000) {
            case 1:
                return middle % 10 == 0 && triesDelay(middle / 10, low);
            case 2:
                return middle % 10 == 0 && triesKind(middle / 10, low);
            case 3:
                return net.hasPath(middle) && net.lengthOf(middle, trial.delays) >= low;
            case 4:
                return pathsAsLong(middle) >= low;
            case 5:
                table.fitTo(net, trial.kinds);
                return net.hasPath(middle) && low <= 1 && table.canProve(middle, low);
            case 6:
                table.fitTo(net, trial.kinds);
                return middle / 10 == 0 && table.deadBeginnings(net) >= doing % 100;
            default:
                return false;
        }
    }

    private boolean triesDelay(int gate, int delay) {
        if (!net.hasGate(gate) || delay < 1) {
            return false;
        }
        trial.delays[gate] = delay;
        return true;
    }

    private boolean triesKind(int gate, int kind) {
        if (!net.hasGate(gate) || kind > NOR || trial.kinds[gate] == NOT) {
            return false;
        }
        trial.kinds[gate] = kind;
        return true;
    }

    private int pathsAsLong(int length) {
        int many = 0;
        for (int p = 0; p < net.paths; p++) {
            if (net.lengthOf(p, trial.delays) >= length) {
                many++;
            }
        }
        return many;
    }

    private boolean agreesWithSeen() {
        for (int i = 0; i < sightings.size; i++) {
            waves.run(net, trial.kinds, trial.delays, net.pairWithin(sightings.pairs[i]));
            boolean late = waves.isLate(net, sightings.times[i]);
            if (late != (sightings.lates[i] == 1)) {
                return false;
            }
        }
        return true;
    }

    private int chanceOf(int slowed, int x) {
        int weight = 1;
        for (int g = 0; g < net.gates; g++) {
            weight *= ((slowed >> g) & 1) == 1 ? x : CHANCE_WHOLE - x;
        }
        return weight;
    }

    private void slowTrial(int slowed) {
        for (int g = 0; g < net.gates; g++) {
            trial.delays[g] = now.delays[g] + (((slowed >> g) & 1) == 1 ? CHANCE_DELAY : 0);
        }
    }

    private static int ordersOf(int many) {
        return many < 0 || many >= ORDERS.length ? 1 : ORDERS[many];
    }

    private static int fraction(int above, int below, boolean upper) {
        int divisor = above;
        int rest = below;
        // Euclid's steps on two ints are fewer than 64
        for (int i = 0; i < 64 && rest != 0; i++) {
            int left = divisor % rest;
            divisor = rest;
            rest = left;
        }
        if (divisor == 0) {
            divisor = 1;
        }
        return upper ? above / divisor : below / divisor;
    }

    /** THE TEXT, and how it is read. */
    private static final class Script {
        final int[] letters = new int[MOST_LETTERS];
        int size = 0;
        private int at = 0;

        /** Reads THE TEXT; wherever reading stops short, be it at a letter or at the end, is the FAULT. */
        int readInto(Net to) {
            at = 0;
            to.inputs = 0;
            to.gates = 0;
            to.paths = 0;
            boolean whole = readHead(to) && readGates(to) && readNexts(to) && at == size;
            return whole ? NONE : at;
        }

        private int letter() {
            return at < size && at < MOST_LETTERS ? letters[at] : NONE;
        }

        private boolean readHead(Net to) {
            if (letter() != 'C') {
                return false;
            }
            at++;
            int figure = letter() - '0';
            if (figure < 1 || figure > MOST_INPUTS) {
                return false;
            }
            at++;
            to.inputs = figure;
            return true;
        }

        private boolean readGates(Net to) {
            for (int g = 0; g <= MOST_GATES; g++) {
                if (g > 0 && letter() == '>') {
                    at++;
                    return true;
                }
                if (g == MOST_GATES || !readGate(to, g)) {
                    return false;
                }
                to.gates++;
            }
            return false;
        }

        private boolean readGate(Net to, int g) {
            int kind = kindOf(letter());
            if (kind == NONE || (kind != NOT && to.inputs + g < 2)) {
                return false;
            }
            at++;
            int left = readSignal(to, NONE);
            if (left == NONE) {
                return false;
            }
            int right = NONE;
            if (kind != NOT) {
                right = readSignal(to, left);
                if (right == NONE) {
                    return false;
                }
            }
            to.told[g] = kind;
            to.lefts[g] = left;
            to.rights[g] = right;
            return true;
        }

        private static int kindOf(int sign) {
            switch (sign) {
                case '&':
                    return AND;
                case '|':
                    return OR;
                case 'n':
                    return NAND;
                case 'o':
                    return NOR;
                case '~':
                    return NOT;
                default:
                    return NONE;
            }
        }

        /** A SIGNAL of those told so far, but for one; NONE, and nothing is read: there is none such. */
        private int readSignal(Net to, int butFor) {
            int letter = letter();
            int signal = NONE;
            if (letter >= 'a' && letter < 'a' + to.inputs) {
                signal = letter - 'a';
            } else if (letter >= '0' && letter < '0' + to.gates) {
                signal = FIRST_GATE + letter - '0';
            }
            if (signal == butFor) {
                return NONE;
            }
            if (signal != NONE) {
                at++;
            }
            return signal;
        }

        private boolean readNexts(Net to) {
            for (int i = 0; i < to.inputs && i < MOST_INPUTS; i++) {
                int signal = readSignal(to, NONE);
                if (signal == NONE) {
                    return false;
                }
                to.nexts[i] = signal;
            }
            return true;
        }
    }

    /** What no act changes: INPUTS, the SIGNALS of GATES, NEXT, and so the PATHS. */
    private static final class Net {
        int inputs = 0;
        int gates = 0;
        int paths = 0;
        final int[] told = new int[MOST_GATES];
        final int[] lefts = new int[MOST_GATES];
        final int[] rights = new int[MOST_GATES];
        final int[] nexts = new int[MOST_INPUTS];
        final int[] starts = new int[MOST_PATHS];
        final int[] sizes = new int[MOST_PATHS];
        final int[] steps = new int[MOST_PATHS * MOST_GATES];
        /** The links of a PATH, two bits a GATE: 1 if it comes in by the first SIGNAL, 2 by the other. */
        final int[] links = new int[MOST_PATHS];

        boolean hasGate(int gate) {
            return gate >= 0 && gate < gates;
        }

        boolean hasPath(int path) {
            return path >= 0 && path < paths;
        }

        boolean hasPair(int pair) {
            return pair >= 0 && pair < PAIRS && pairWithin(pair) == pair;
        }

        int allBits() {
            return (1 << inputs) - 1;
        }

        /** A PAIR less the bits of INPUTS that there are not. */
        int pairWithin(int pair) {
            return pair & ((allBits() << 4) | allBits());
        }

        /**
         * The GATES of a PATH only go up, so a PATH is an INPUT and a set of GATES. With GATE 0
         * as the highest bit of the set, the lesser PATH is the greater number; the odd ones
         * have THE OUTPUT.
         */
        void numberPaths() {
            paths = 0;
            for (int input = 0; input < inputs; input++) {
                for (int set = (1 << gates) - 1; set > 0; set -= 2) {
                    addIfLinked(input, set);
                }
            }
        }

        private void addIfLinked(int input, int set) {
            if (paths >= MOST_PATHS) {
                return;
            }
            int signal = input;
            int size = 0;
            int linked = 0;
            for (int g = 0; g < gates; g++) {
                if (((set >> (gates - 1 - g)) & 1) == 1) {
                    if (lefts[g] != signal && rights[g] != signal) {
                        return;
                    }
                    linked |= (lefts[g] == signal ? 1 : 2) << (2 * g);
                    steps[paths * MOST_GATES + size] = g;
                    size++;
                    signal = FIRST_GATE + g;
                }
            }
            starts[paths] = input;
            sizes[paths] = size;
            links[paths] = linked;
            paths++;
        }

        int stepOf(int path, int i) {
            return i >= 0 && i < sizes[path] ? steps[path * MOST_GATES + i] : NONE;
        }

        int lengthOf(int path, int[] delays) {
            int length = 0;
            for (int i = 0; i < sizes[path]; i++) {
                length += delays[steps[path * MOST_GATES + i]];
            }
            return length;
        }

        /** The links of a PATH's first GATES, so many of them (1 or more, and no more than it has). */
        int beginning(int path, int many) {
            int last = steps[path * MOST_GATES + many - 1];
            return links[path] & ((1 << (2 * last + 2)) - 1);
        }

        /** Whether a lesser PATH has the same first GATES: such PATHS are numbered side by side. */
        boolean isSharedBefore(int path, int many) {
            int other = path - 1;
            return other >= 0 && starts[path] == starts[other] && sizes[other] >= many
                    && beginning(path, many) == beginning(other, many);
        }
    }

    /** KINDS and DELAYS of GATES. */
    private static final class Setting {
        final int[] kinds = new int[MOST_GATES];
        final int[] delays = new int[MOST_GATES];
        boolean held = false;

        void begin(Net net) {
            for (int g = 0; g < MOST_GATES; g++) {
                kinds[g] = net.told[g];
                delays[g] = 1;
            }
        }

        void copyFrom(Setting other) {
            for (int g = 0; g < MOST_GATES; g++) {
                kinds[g] = other.kinds[g];
                delays[g] = other.delays[g];
            }
        }

        int delaysTogether(Net net) {
            int together = 0;
            for (int g = 0; g < net.gates; g++) {
                together += delays[g];
            }
            return together;
        }
    }

    /** THE ROW of ACTS: of each its GATE, whether it was TURNED, and what was there before. */
    private static final class Acts {
        final int[] gates = new int[MOST_ACTS];
        final boolean[] turned = new boolean[MOST_ACTS];
        final int[] olds = new int[MOST_ACTS];
        int size = 0;

        void add(int gate, boolean isTurned, int old) {
            if (size >= MOST_ACTS) {
                forgetFirst();
            }
            gates[size] = gate;
            turned[size] = isTurned;
            olds[size] = old;
            size++;
        }

        private void forgetFirst() {
            for (int i = 1; i < MOST_ACTS; i++) {
                gates[i - 1] = gates[i];
                turned[i - 1] = turned[i];
                olds[i - 1] = olds[i];
            }
            size = MOST_ACTS - 1;
        }

        void takeBack(Setting setting, int i) {
            if (turned[i]) {
                setting.kinds[gates[i]] = olds[i];
            } else {
                setting.delays[gates[i]] = olds[i];
            }
        }
    }

    /** What was SEEN. */
    private static final class Sightings {
        final int[] pairs = new int[MOST_SEEN];
        final int[] times = new int[MOST_SEEN];
        final int[] lates = new int[MOST_SEEN];
        int size = 0;

        void add(int pair, int t, int late) {
            if (size < MOST_SEEN) {
                pairs[size] = pair;
                times[size] = t;
                lates[size] = late;
                size++;
            }
        }
    }

    /** VALUES of SIGNALS by one PAIR, and the links of GATES at which a PATH is tested by it. */
    private static final class Levels {
        final int[] of = new int[SIGNALS];
        int links = 0;
        int sureLinks = 0;

        void settle(Net net, int[] kinds, int pair) {
            for (int i = 0; i < net.inputs; i++) {
                int was = (pair >> (4 + i)) & 1;
                int is = (pair >> i) & 1;
                of[i] = was == is ? is : 2 + is;
            }
            links = 0;
            sureLinks = 0;
            for (int g = 0; g < net.gates; g++) {
                int left = of[net.lefts[g]];
                int right = kinds[g] == NOT ? left : of[net.rights[g]];
                of[FIRST_GATE + g] = made(kinds[g], left, right);
                addLink(kinds[g], left, right, 1 << (2 * g));
                addLink(kinds[g], right, left, 2 << (2 * g));
            }
        }

        private static int made(int kind, int left, int right) {
            switch (kind) {
                case AND:
                    return both(left, right);
                case OR:
                    return any(left, right);
                case NAND:
                    return swapped(both(left, right));
                case NOR:
                    return swapped(any(left, right));
                default:
                    return swapped(left);
            }
        }

        // of 2 and 3, as of 0 and 1, the last bit is where it ends: & and | of the ends tell which

        private static int both(int left, int right) {
            if (left == 0 || right == 0) {
                return 0;
            }
            if (left == 1 && right == 1) {
                return 1;
            }
            return 2 + (left & right & 1);
        }

        private static int any(int left, int right) {
            if (left == 1 || right == 1) {
                return 1;
            }
            if (left == 0 && right == 0) {
                return 0;
            }
            return 2 + ((left | right) & 1);
        }

        private static int swapped(int level) {
            return level ^ 1;
        }

        /** What a SIGNAL is by the second PATTERN: 0 and 2 end at 0, 1 and 3 at 1. */
        private static int endsAt(int level) {
            return level & 1;
        }

        private void addLink(int kind, int on, int side, int link) {
            if (kind == NOT) {
                links |= link;
                sureLinks |= link;
                return;
            }
            int lets = kind == AND || kind == NAND ? 1 : 0;
            if (endsAt(side) == lets) {
                links |= link;
                if (endsAt(on) == lets || side == lets) {
                    sureLinks |= link;
                }
            }
        }

        int howFar(Net net, int path) {
            if (of[net.starts[path]] < 2 || (net.links[path] & ~links) != 0) {
                return 0;
            }
            return (net.links[path] & ~sureLinks) == 0 ? 2 : 1;
        }
    }

    /** Of every PAIR the PATHS that it TESTS SURELY; made anew when KINDS are others. */
    private static final class PairTable {
        private static final int UNMADE = -1;

        final Levels levels = new Levels();
        final int[] sureLinks = new int[PAIRS];
        final long[] risers = new long[PAIRS];
        final long[] fallers = new long[PAIRS];
        final int[] captured = new int[PATTERNS];
        int madeFor = UNMADE;

        void forget() {
            madeFor = UNMADE;
        }

        void fitTo(Net net, int[] kinds) {
            int packedKinds = 0;
            for (int g = 0; g < net.gates; g++) {
                packedKinds |= kinds[g] << (3 * g);
            }
            if (packedKinds == madeFor) {
                return;
            }
            madeFor = packedKinds;
            for (int pair = 0; pair < PAIRS; pair++) {
                makeRow(net, kinds, pair);
            }
        }

        private void makeRow(Net net, int[] kinds, int pair) {
            sureLinks[pair] = 0;
            risers[pair] = 0;
            fallers[pair] = 0;
            if (!net.hasPair(pair)) {
                return;
            }
            int first = pair >> 4;
            int second = pair & 15;
            levels.settle(net, kinds, pair);
            sureLinks[pair] = levels.sureLinks;
            for (int p = 0; p < net.paths; p++) {
                if (holds(pair, net.links[p])) {
                    risers[pair] |= (long) (((second & ~first) >> net.starts[p]) & 1) << p;
                    fallers[pair] |= (long) (((first & ~second) >> net.starts[p]) & 1) << p;
                }
            }
            if (first == second) {
                captured[first] = nextPattern(net);
            }
        }

        /** While both PATTERNS are the same one, VALUES are what is STEADY by it. */
        private int nextPattern(Net net) {
            int pattern = 0;
            for (int i = 0; i < net.inputs; i++) {
                pattern |= levels.of[net.nexts[i]] << i;
            }
            return pattern;
        }

        private static boolean goesOver(int pair, int input, int to) {
            return ((pair >> (4 + input)) & 1) != to && ((pair >> input) & 1) == to;
        }

        private boolean holds(int pair, int links) {
            return (links & ~sureLinks[pair]) == 0;
        }

        boolean provesPath(int pair, int path, int rises) {
            long proven = rises == 1 ? risers[pair] : fallers[pair];
            return ((proven >> path) & 1) == 1;
        }

        boolean canProve(int path, int rises) {
            for (int pair = 0; pair < PAIRS; pair++) {
                if (provesPath(pair, path, rises)) {
                    return true;
                }
            }
            return false;
        }

        int provenPaths() {
            long risen = 0;
            long fallen = 0;
            for (int pair = 0; pair < PAIRS; pair++) {
                risen |= risers[pair];
                fallen |= fallers[pair];
            }
            return Long.bitCount(risen) + Long.bitCount(fallen);
        }

        boolean isLaunched(Net net, int how, int pair) {
            int first = pair >> 4;
            int second = pair & 15;
            switch (how) {
                case 0:
                    return true;
                case 1:
                    return (second & ~1) == ((first << 1) & net.allBits());
                default:
                    return captured[first] == second;
            }
        }

        int deadBeginnings(Net net) {
            int dead = 0;
            for (int p = 0; p < net.paths; p++) {
                for (int to = 0; to <= 1; to++) {
                    int alive = gatesAlive(net, p, to);
                    if (alive < net.sizes[p] && !net.isSharedBefore(p, alive + 1)) {
                        dead++;
                    }
                }
            }
            return dead;
        }

        /**
         * How many GATES of a PATH the longest BEGINNING has that is not DEAD. What a PAIR fails
         * at it fails at all that is longer, so one way through the PAIRS is enough.
         */
        private int gatesAlive(Net net, int path, int to) {
            int alive = 0;
            int size = net.sizes[path];
            for (int pair = 0; pair < PAIRS && alive < size; pair++) {
                if (goesOver(pair, net.starts[path], to)) {
                    while (alive < size && holds(pair, net.beginning(path, alive + 1))) {
                        alive++;
                    }
                }
            }
            return alive;
        }

        int pack(Net net, int how, int i) {
            long risen = 0;
            long fallen = 0;
            // each PAIR that is taken brings one more of the PATHS, rising or falling
            for (int taken = 0; taken <= 2 * MOST_PATHS; taken++) {
                int pair = fullest(net, how, risen, fallen);
                if (pair == NONE) {
                    return i == -1 ? taken : NONE;
                }
                if (taken == i) {
                    return pair;
                }
                risen |= risers[pair];
                fallen |= fallers[pair];
            }
            return NONE;
        }

        private int fullest(Net net, int how, long risen, long fallen) {
            int most = 0;
            int fullest = NONE;
            for (int pair = 0; pair < PAIRS; pair++) {
                int more = Long.bitCount(risers[pair] & ~risen) + Long.bitCount(fallers[pair] & ~fallen);
                if (more > most && isLaunched(net, how, pair)) {
                    most = more;
                    fullest = pair;
                }
            }
            return fullest;
        }
    }

    /** WAVES of all SIGNALS by one PAIR, a bit for each time from 0 to 127. */
    private static final class Waves {
        private static final int HALF = 64;

        final long[] before = new long[SIGNALS];
        final long[] after = new long[SIGNALS];
        final long[] low = new long[SIGNALS];
        final long[] high = new long[SIGNALS];

        void run(Net net, int[] kinds, int[] delays, int pair) {
            for (int i = 0; i < net.inputs; i++) {
                before[i] = -(long) ((pair >> (4 + i)) & 1);
                after[i] = -(long) ((pair >> i) & 1);
                low[i] = after[i];
                high[i] = after[i];
            }
            for (int g = 0; g < net.gates; g++) {
                int left = net.lefts[g];
                int right = kinds[g] == NOT ? left : net.rights[g];
                int to = FIRST_GATE + g;
                int delay = delays[g];
                before[to] = made(kinds[g], before[left], before[right]);
                after[to] = made(kinds[g], after[left], after[right]);
                low[to] = made(kinds[g], lowLater(left, delay), lowLater(right, delay));
                high[to] = made(kinds[g], highLater(left, delay), highLater(right, delay));
            }
        }

        private long lowLater(int signal, int delay) {
            return (low[signal] << delay) | (before[signal] >>> (HALF - delay));
        }

        private long highLater(int signal, int delay) {
            return (high[signal] << delay) | (low[signal] >>> (HALF - delay));
        }

        private static long made(int kind, long left, long right) {
            switch (kind) {
                case AND:
                    return left & right;
                case OR:
                    return left | right;
                case NAND:
                    return ~(left & right);
                case NOR:
                    return ~(left | right);
                default:
                    return ~left;
            }
        }

        int at(int signal, int t) {
            long bits = t < HALF ? low[signal] >>> t : high[signal] >>> (t - HALF);
            return (int) (bits & 1);
        }

        boolean isLate(Net net, int t) {
            int output = FIRST_GATE + net.gates - 1;
            return at(output, t) != (int) (after[output] & 1);
        }
    }

    /** The greatest LENGTH while only some DELAYS have come. */
    private static final class Spans {
        final int[] upTo = new int[SIGNALS];

        int greatest(Net net, int[] delays, int come) {
            for (int i = 0; i < net.inputs; i++) {
                upTo[i] = 0;
            }
            int span = 0;
            for (int g = 0; g < net.gates; g++) {
                int left = upTo[net.lefts[g]];
                int right = net.rights[g] == NONE ? left : upTo[net.rights[g]];
                span = Math.max(left, right) + (((come >> g) & 1) == 1 ? delays[g] : 0);
                upTo[FIRST_GATE + g] = span;
            }
            return span;
        }
    }
}
