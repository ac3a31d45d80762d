import java.math.BigInteger;

/** Boundary cases of promises 23 to 26: share, slows, seed, drawn. */
final class EdgesOfShares {
    private static final String NOTS = "C1~a~0~1~2~3~4~5~6>a";
    private static final BigInteger WRAP = BigInteger.ONE.shiftLeft(64);
    private final Edges e;

    EdgesOfShares(Edges e) {
        this.e = e;
    }

    void all() {
        share();
        shareFractions();
        shareRefused();
        slows();
        slowsFractions();
        slowsRefused();
        seed();
        drawn();
        drawnBits();
        drawnRefused();
    }

    private void shareIs(SlowPaths x, int gate, int above, int below) {
        e.is("share(" + gate + ", true)", x.share(gate, true), above);
        e.is("share(" + gate + ", false)", x.share(gate, false), below);
    }

    private void share() {
        e.about(23, "SHARE of a GATE: if DELAYS of GATES come one by one, in each order as likely (those that have not come are 0):"
                + " by how much in the mean the greatest LENGTH is more when it has come than it was: a FRACTION.");
        SlowPaths one = Due.told("C1~a>a");
        for (int delay = 1; delay <= 9; delay++) {
            one.slow(0, delay);
            shareIs(one, 0, delay, 1);
        }
        SlowPaths eight = Due.told(NOTS);
        for (int g = 0; g < 8; g++) eight.slow(g, 9 - g);
        for (int g = 0; g < 8; g++) shareIs(eight, g, 9 - g, 1);
        SlowPaths two = Due.told("C2~a~b&01>ab");
        shareIs(two, 0, 1, 2);
        two.slow(1, 9);
        shareIs(two, 0, 1, 2);
        shareIs(two, 1, 17, 2);
        shareIs(two, 2, 1, 1);

        e.about(23, "SHARE.");
        // all the shares together are the greatest length
        SlowPaths deep = Due.told(CircuitTest.DEEP);
        for (int g = 0; g < 8; g++) deep.slow(g, 1 + 5 * g % 9);
        long together = 0;
        for (int g = 0; g < 8; g++) together += 40320L / deep.share(g, false) * deep.share(g, true);
        e.is("all of eight", together, 40320L * deep.longest(0));
    }

    private void shareFractions() {
        e.about(23, "FRACTIONS are told above (upper = true), below, in least terms; refusals of them are told likewise.");
        shareIs(Due.told("C1~a~a>a"), 0, 0, 1);
        shareIs(Due.told("C1~a~a>a"), 1, 1, 1);
        SlowPaths two = Due.told("C2~a~b&01>ab");
        two.slow(0, 2);
        two.slow(1, 2);
        shareIs(two, 0, 1, 1);
        two.slow(1, 3);
        shareIs(two, 1, 2, 1);
        two.slow(1, 5);
        shareIs(two, 0, 1, 1);
        two.slow(0, 5);
        shareIs(two, 0, 5, 2);
        // by hand in SharesTest
        SlowPaths three = Due.told("C3~a~b~c|01|32>abc");
        shareIs(three, 0, 5, 12);
        shareIs(three, 2, 1, 4);
        shareIs(three, 3, 11, 12);
        shareIs(three, -1, Edges.UNKNOWN, Edges.UNKNOWN);
        shareIs(three, 5, Edges.UNKNOWN, Edges.UNKNOWN);
    }

    private void shareRefused() {
        e.about(23, "UNKNOWN.");
        for (int g : new int[] {-1, 8, Edges.LEAST, Edges.MOST}) {
            e.refused("share(" + g + ", true)", o -> o.share(g, true), Edges.UNKNOWN, State.values());
            e.refused("share(" + g + ", false)", o -> o.share(g, false), Edges.UNKNOWN, State.values());
        }
        e.refused("share(4, true) of four", o -> o.share(4, true), Edges.UNKNOWN, State.RICH);
        e.refused("share(0, false) of none", o -> o.share(0, false), Edges.UNKNOWN, State.FRESH);
        shareIs(State.RICH.make(), 3, 5, 1);
    }

    private void slowsIs(SlowPaths x, int pair, int t, int tenths, int above, int below) {
        String call = "slows(" + pair + ", " + t + ", " + tenths + ", ";
        e.is(call + "true)", x.slows(pair, t, tenths, true), above);
        e.is(call + "false)", x.slows(pair, t, tenths, false), below);
    }

    private void slows() {
        e.about(24, "SLOWS: each GATE has 3 more as its DELAY by x tenths (0 to 10), by itself: that it is LATE by a PAIR and t: a FRACTION.");
        SlowPaths x = Due.told("C1~a>a");
        int[] above = {0, 1, 1, 3, 2, 1, 3, 7, 4, 9, 1};
        int[] below = {1, 10, 5, 10, 5, 2, 5, 10, 5, 10, 1};
        for (int tenths = 0; tenths <= 10; tenths++) {
            slowsIs(x, 1, 0, tenths, 1, 1);
            slowsIs(x, 1, 1, tenths, above[tenths], below[tenths]);
            slowsIs(x, 16, 3, tenths, above[tenths], below[tenths]);
            slowsIs(x, 1, 4, tenths, 0, 1);
            slowsIs(x, 17, 0, tenths, 0, 1);
        }
        SlowPaths two = Due.told("C1~a~0>a");
        slowsIs(two, 1, 2, 1, 19, 100);
        slowsIs(two, 1, 5, 1, 1, 100);
        slowsIs(two, 1, 8, 1, 0, 1);

        e.about(24, "SLOWS.");
        SlowPaths most = Due.told(NOTS);
        for (int g = 0; g < 8; g++) most.slow(g, 9);
        slowsIs(most, 1, 71, 0, 1, 1);
        slowsIs(most, 1, 72, 0, 0, 1);
        slowsIs(most, 1, 95, 10, 1, 1);
        slowsIs(most, 1, 96, 10, 0, 1);
        slowsIs(most, 1, 99, 10, 0, 1);
        e.is("delays stay", most.count(5), 72);
    }

    private void slowsFractions() {
        e.about(24, "FRACTIONS are told above (upper = true), below, in least terms; refusals of them are told likewise.");
        SlowPaths eight = Due.told(NOTS);
        slowsIs(eight, 1, 31, 1, 1, 100_000_000);
        slowsIs(eight, 1, 31, 9, 43_046_721, 100_000_000);
        slowsIs(eight, 1, 31, 5, 1, 256);
        slowsIs(eight, 1, 31, 2, 1, 390_625);
        slowsIs(eight, 1, 8, 5, 255, 256);
        slowsIs(eight, 1, 7, 3, 1, 1);
        slowsIs(eight, 1, 32, 3, 0, 1);
        slowsIs(eight, 2, 0, 0, Edges.OUTSIDE, Edges.OUTSIDE);
        slowsIs(eight, 0, 100, 0, Edges.OUTSIDE, Edges.OUTSIDE);
        slowsIs(eight, 0, 0, 11, Edges.OUTSIDE, Edges.OUTSIDE);
        slowsIs(new SlowPaths(), 0, 0, 0, Edges.STATE, Edges.STATE);
    }

    private void slowsRefused() {
        e.about(24, "OUTSIDE: pair, t, x; STATE: there is no GATE.");
        for (int n = 1; n <= 4; n++) {
            SlowPaths x = Due.told(EdgesOfPairs.notOf(n, 'a'));
            for (int pair = -2; pair <= 258; pair++)
                e.is(n + " inputs: slows(" + pair + ", 99, 10, false)", x.slows(pair, 99, 10, false),
                        EdgesOfPairs.isPair(n, pair) ? 1 : Edges.OUTSIDE);
        }
        for (boolean upper : new boolean[] {true, false}) {
            for (int pair : new int[] {-1, 256, 8, Edges.LEAST, Edges.MOST})
                e.refused("slows(" + pair + ", 0, 0)", o -> o.slows(pair, 0, 0, upper), Edges.OUTSIDE, State.values());
            for (int t : new int[] {-1, 100, Edges.LEAST, Edges.MOST})
                e.refused("slows(0, " + t + ", 0)", o -> o.slows(0, t, 0, upper), Edges.OUTSIDE, State.values());
            for (int tenths : new int[] {-1, 11, Edges.LEAST, Edges.MOST})
                e.refused("slows(0, 0, " + tenths + ")", o -> o.slows(0, 0, tenths, upper), Edges.OUTSIDE, State.values());
            e.refused("slows(0, 0, 0) of none", o -> o.slows(0, 0, 0, upper), Edges.STATE, State.FRESH);
            e.refused("slows(0, 99, 10) of none", o -> o.slows(0, 99, 10, upper), Edges.STATE, State.FRESH);
        }
    }

    private void seed() {
        e.about(25, "THE SEED is v: what it was.");
        SlowPaths x = new SlowPaths();
        long was = 0;
        for (long v : new long[] {1, Long.MAX_VALUE, Long.MIN_VALUE, -1, 0, 1L << 32, -9}) {
            e.is("seed(" + v + ")", x.seed(v), was);
            was = v;
        }
        x = Due.told("C1~a>a");
        e.is("seed(7) of a circuit", x.seed(7), 0);
        x.wipe();
        x.circuit();
        x.keep(0);
        x.seed(8);
        x.again(0);
        e.is("no other call changes it", x.seed(0), 8);
    }

    private static BigInteger next(BigInteger x) {
        return x.multiply(new BigInteger("6364136223846793005")).add(new BigInteger("1442695040888963407")).mod(WRAP);
    }

    private void drawn() {
        e.about(26, "DRAWN by THE SEED: m times (1 to 20) x (THE SEED, a long; 0 at first) becomes x times 6364136223846793005"
                + " and 1442695040888963407 (64 bits, wrapping);");
        e.is("0 at first", new SlowPaths().seed(0), 0);
        for (long v : new long[] {0, 1, -1, Long.MAX_VALUE, Long.MIN_VALUE, 6364136223846793005L}) {
            SlowPaths x = new SlowPaths();
            BigInteger s = BigInteger.valueOf(v).mod(WRAP);
            x.seed(v);
            for (int m : new int[] {1, 2, 19, 20}) {
                for (int i = 0; i < m; i++) s = next(s);
                e.is("drawn(" + m + ") of no path", x.drawn(m), 0);
                e.is("the seed from " + v, x.seed(s.longValue()), s.longValue());
            }
        }
    }

    /** What is due by what tests() answers to each pair. */
    private void drawnOf(String text, int bits, long seed, int m) {
        SlowPaths x = Due.told(text);
        x.seed(seed);
        BigInteger s = BigInteger.valueOf(seed).mod(WRAP);
        int want = 0;
        for (int i = 0; i < m; i++) {
            s = next(s);
            long upper = s.shiftRight(33).longValueExact();
            int pair = Due.pair((int) (upper % 16) & bits, (int) (upper / 16 % 16) & bits);
            for (int p = 0; p < x.count(3); p++) want += x.tests(p, pair);
        }
        e.is(text + " from " + seed + ": drawn(" + m + ")", x.drawn(m), want);
        e.is(text + " from " + seed + ": the seed", x.seed(0), s.longValue());
    }

    private void drawnBits() {
        e.about(26, "of its upper 31 bits what is left by 16 is the first PATTERN, that by 16 (cut), left by 16, the second one"
                + " (bits of INPUTS that there are alone): of all PATHS how far it TESTS them (0, 1, 2), each time, together.");
        for (long seed : new long[] {0, 5, -1, Long.MIN_VALUE, Long.MAX_VALUE})
            for (int m : new int[] {1, 2, 20}) {
                drawnOf("C1~a>a", 1, seed, m);
                drawnOf("C2&ab~0>ab", 3, seed, m);
                drawnOf("C3&ab|0c&1a>012", 7, seed, m);
                drawnOf("C4&ab|cdn01>abcd", 15, seed, m);
            }

        e.about(26, "(Nothing changes but THE SEED.)");
        for (State state : State.values()) {
            SlowPaths x = state.make();
            long seed = x.seed(0);
            x.drawn(20);
            x.seed(seed);
            e.alike(state + ": behind drawn(20), the seed put back", x, state.make());
        }

        e.about(26, "DRAWN.");
        SlowPaths x = Due.told("C1~a>a");
        x.seed(1);
        int twenty = x.drawn(20);
        x.seed(1);
        int one = 0;
        for (int i = 0; i < 20; i++) one += x.drawn(1);
        e.is("20 times one is one time 20", one, twenty);
        e.is("40 at most", twenty <= 40 && twenty >= 0 ? 1 : 0, 1);
    }

    private void drawnRefused() {
        e.about(26, "OUTSIDE: m.");
        for (int m : new int[] {0, 21, -1, Edges.LEAST, Edges.MOST})
            e.refused("drawn(" + m + ")", o -> o.drawn(m), Edges.OUTSIDE, State.values());
    }
}
