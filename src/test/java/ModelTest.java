import java.util.Random;

/** Runs of calls, ordinary and wrong ones, on the class and on the model side by side (promises 1 to 29). */
public final class ModelTest {
    private static final int RUNS = 700;
    private static final int CALLS = 130;

    private final Due due = new Due("ModelTest");
    private final Random random;
    private final SlowPaths x = new SlowPaths();
    private final Model m = new Model();
    private final StringBuilder told = new StringBuilder();

    private ModelTest(int run) {
        random = new Random(run);
    }

    public static void main(String[] args) {
        int wrong = 0;
        for (int run = 0; run < RUNS && wrong < 3; run++) {
            ModelTest test = new ModelTest(run);
            test.run();
            if (test.due.isWrong()) {
                System.out.println("run " + run + ":" + test.told);
                wrong++;
            }
        }
        System.out.println("ModelTest: " + RUNS + " runs of " + CALLS + " calls, " + wrong + " wrong");
        if (wrong != 0) System.exit(1);
    }

    private void run() {
        if (random.nextInt(12) != 0) tell(someText(random, 1 + random.nextInt(random.nextInt(3) == 0 ? 8 : 5)));
        for (int i = 0; i < CALLS && !due.isWrong(); i++) {
            if (random.nextInt(40) == 0) tell(someText(random, 1 + random.nextInt(5)));
            else call(random.nextInt(29));
        }
    }

    private void is(String call, long got, long want) {
        told.append(' ').append(call);
        due.is(call, got, want);
    }

    static String someText(Random random, int gates) {
        int n = 1 + random.nextInt(4);
        StringBuilder s = new StringBuilder("C").append(n);
        String known = "abcd".substring(0, n);
        for (int g = 0; g < gates; g++) {
            int kind = known.length() < 2 ? 4 : Math.min(4, random.nextInt(9) / 2);
            s.append("&|no~".charAt(kind));
            // signals told late make long paths
            char left = known.charAt(random.nextBoolean() ? known.length() - 1 : random.nextInt(known.length()));
            s.append(left);
            if (kind < 4) {
                String rest = known.replace("" + left, "");
                s.append(rest.charAt(random.nextBoolean() ? rest.length() - 1 : random.nextInt(rest.length())));
            }
            known += g;
        }
        s.append('>');
        for (int i = 0; i < n; i++) s.append(known.charAt(random.nextInt(known.length())));
        return s.toString();
    }

    /** Tells a text, at times with a letter changed, left out or put in. */
    private void tell(String text) {
        StringBuilder s = new StringBuilder(text);
        String letters = "C01234567abcd&|no~>5x\u00ff";
        int at = random.nextInt(s.length());
        char letter = letters.charAt(random.nextInt(letters.length()));
        switch (random.nextInt(10)) {
            case 0: s.setCharAt(at, letter); break;
            case 1: s.deleteCharAt(at); break;
            case 2: s.insert(at, letter); break;
            case 3: s.append(letter); break;
            default: break;
        }
        is("wipe()", x.wipe(), m.wipe());
        for (char c : s.toString().toCharArray()) is("write(" + (int) c + ")", x.write(c), m.write(c));
        is("fault() of " + s, x.fault(), m.fault());
        is("circuit()", x.circuit(), m.circuit());
    }

    private int some(int from, int to) {
        int odd = random.nextInt(60);
        if (odd == 0) return from - 1;
        if (odd == 1) return to + 1;
        if (odd == 2) return new int[] {Integer.MIN_VALUE, Integer.MAX_VALUE, -1, 0, 1000}[random.nextInt(5)];
        return from + random.nextInt(to - from + 1);
    }

    private int someGate() {
        return some(0, Math.max(0, m.count(2) - 1));
    }

    private int somePath() {
        return some(0, Math.max(0, m.count(3) - 1));
    }

    private int somePair() {
        int bits = (1 << m.count(1)) - 1;
        return some(0, 255) & (random.nextInt(20) == 0 ? -1 : bits * 17);
    }

    private int someTime() {
        return random.nextInt(4) == 0 ? some(0, 99) : some(0, 4 + Math.max(0, m.longest(0)));
    }

    private long someRow(int n) {
        long row = 0;
        for (int i = 0; i < n; i++) {
            int gate = someGate() & 7, path = somePath() & 63;
            int[] doings = {1000 + gate * 100 + random.nextInt(10), 2000 + gate * 100 + random.nextInt(5),
                3000 + path * 10 + random.nextInt(10), 4000 + random.nextInt(20) * 10 + random.nextInt(4),
                5000 + path * 10 + random.nextInt(2), 6000 + random.nextInt(6), random.nextInt(10000)};
            row = row * 10000 + doings[random.nextInt(40) == 0 ? 6 : random.nextInt(6)];
        }
        return random.nextInt(40) == 0 ? random.nextLong() : row;
    }

    private void call(int which) {
        if (which < 15) callFirst(which);
        else callSecond(which);
    }

    private void callFirst(int which) {
        int g = someGate(), p = somePath(), pair = somePair(), what = some(0, 3);
        int rises = some(0, 1), how = some(0, 2), one = some(0, 1);
        boolean upper = random.nextBoolean();
        switch (which) {
            case 0: is("write", x.write('a'), m.write('a')); break;
            case 1: is("fault", x.fault(), m.fault()); break;
            case 2: is("gate(" + g + ", " + what + ")", x.gate(g, what), m.gate(g, what)); break;
            case 3: case 4: {
                int delay = some(1, 9);
                is("slow(" + g + ", " + delay + ")", x.slow(g, delay), m.slow(g, delay));
                break;
            }
            case 5: case 6: {
                int kind = some(0, 3);
                is("turn(" + g + ", " + kind + ")", x.turn(g, kind), m.turn(g, kind));
                break;
            }
            case 7: is("undo()", x.undo(), m.undo()); break;
            case 8: {
                int step = some(0, 11);
                is("path(" + p + ", " + step + ")", x.path(p, step), m.path(p, step));
                break;
            }
            case 9: is("longest(" + one + ")", x.longest(one), m.longest(one)); break;
            case 10: is("value(" + g + ", " + pair + ")", x.value(g, pair), m.value(g, pair)); break;
            case 11: is("tests(" + p + ", " + pair + ")", x.tests(p, pair), m.tests(p, pair)); break;
            case 12: case 13: is("best(" + p + ", " + rises + ", " + how + ", " + one + ")",
                    x.best(p, rises, how, one), m.best(p, rises, how, one)); break;
            default: is("share(" + g + ", " + upper + ")", x.share(g, upper), m.share(g, upper)); break;
        }
    }

    private void callSecond(int which) {
        int g = someGate(), pair = somePair(), t = someTime(), one = some(0, 1), slot = some(0, 1);
        switch (which) {
            case 15: is("pruned()", x.pruned(), m.pruned()); break;
            case 16: {
                int how = some(0, 2), i = some(-1, 6);
                is("packed(" + how + ", " + i + ")", x.packed(how, i), m.packed(how, i));
                break;
            }
            case 17: is("wave(" + g + ", " + pair + ", " + t + ")", x.wave(g, pair, t), m.wave(g, pair, t)); break;
            case 18: is("late(" + pair + ", " + t + ")", x.late(pair, t), m.late(pair, t)); break;
            case 19: {
                int n = some(1, 4);
                long row = someRow(Math.max(1, Math.min(4, n)));
                is("judge(" + n + ", " + row + ")", x.judge(n, row), m.judge(n, row));
                break;
            }
            case 20: {
                int any = random.nextInt(10) == 0 ? some(0, 255) : pair;
                is("see(" + any + ", " + t + ", " + one + ")", x.see(any, t, one), m.see(any, t, one));
                break;
            }
            case 21: if (random.nextInt(3) == 0) is("unsee()", x.unsee(), m.unsee()); break;
            case 22: is("slower(" + one + ")", x.slower(one), m.slower(one)); break;
            case 23: {
                int chance = some(0, 10);
                boolean upper = random.nextBoolean();
                is("slows(" + pair + ", " + t + ", " + chance + ", " + upper + ")",
                        x.slows(pair, t, chance, upper), m.slows(pair, t, chance, upper));
                break;
            }
            case 24: {
                long v = random.nextLong();
                is("seed(" + v + ")", x.seed(v), m.seed(v));
                break;
            }
            case 25: {
                int many = some(1, 20);
                is("drawn(" + many + ")", x.drawn(many), m.drawn(many));
                break;
            }
            case 26: is("keep(" + slot + ")", x.keep(slot), m.keep(slot)); break;
            case 27: is("again(" + slot + ")", x.again(slot), m.again(slot)); break;
            default: {
                int what = some(0, 11);
                is("count(" + what + ")", x.count(what), m.count(what));
                break;
            }
        }
    }
}
