import java.math.BigInteger;

/** Promises 23 to 26: share, slows, seed, drawn. */
public final class SharesTest {
    private static final Due due = new Due("SharesTest");

    public static void main(String[] args) {
        share();
        slows();
        slowsRefused();
        seed();
        drawn();
        drawnTogether();
        due.end();
    }

    private static void shareIs(SlowPaths x, int gate, int above, int below) {
        due.is("share(" + gate + ", true)", x.share(gate, true), above);
        due.is("share(" + gate + ", false)", x.share(gate, false), below);
    }

    private static void share() {
        SlowPaths x = Due.told("C2~a~b&01>00");
        x.slow(0, 2);
        x.slow(1, 5);
        shareIs(x, 0, 1, 1);
        shareIs(x, 1, 4, 1);
        shareIs(x, 2, 1, 1);
        x.slow(0, 1);
        shareIs(x, 0, 1, 2);
        shareIs(x, 1, 9, 2);
        for (int g : new int[] {-1, 3, 8, Integer.MIN_VALUE, Integer.MAX_VALUE}) shareIs(x, g, -1, -1);
        shareIs(new SlowPaths(), 0, -1, -1);
        SlowPaths aside = Due.told("C1~a~a>0");
        shareIs(aside, 0, 0, 1);
        shareIs(aside, 1, 1, 1);
        // the greatest length is [4] + max([3] + max([0], [1]), [2]) by which of them have come
        SlowPaths three = Due.told("C3~a~b~c|01|32>abc");
        // 0 adds 1 if 1 has not come, but not between 2 and 3: 1/2 less 2 of 24 orders
        shareIs(three, 0, 5, 12);
        shareIs(three, 1, 5, 12);
        // 2 adds 1 only ahead of 0, 1 and 3
        shareIs(three, 2, 1, 4);
        // 3 adds 1 unless 2 alone has come: all but 2 of 24 orders
        shareIs(three, 3, 11, 12);
        shareIs(three, 4, 1, 1);
        SlowPaths eight = Due.told("C1~a~0~1~2~3~4~5~6>7");
        for (int g = 0; g < 8; g++) eight.slow(g, 9);
        shareIs(eight, 7, 9, 1);
    }

    private static void slowsIs(SlowPaths x, int pair, int t, int chance, int above, int below) {
        String call = "slows(" + pair + ", " + t + ", " + chance + ", ";
        due.is(call + "true)", x.slows(pair, t, chance, true), above);
        due.is(call + "false)", x.slows(pair, t, chance, false), below);
    }

    private static void slows() {
        SlowPaths x = Due.told("C1~a>0");
        slowsIs(x, 1, 0, 5, 1, 1);
        slowsIs(x, 1, 1, 5, 1, 2);
        slowsIs(x, 1, 3, 4, 2, 5);
        slowsIs(x, 1, 3, 0, 0, 1);
        slowsIs(x, 1, 3, 10, 1, 1);
        slowsIs(x, 1, 4, 10, 0, 1);
        slowsIs(x, 17, 0, 10, 0, 1);
        SlowPaths two = Due.told("C1~a~0>0");
        slowsIs(two, 1, 2, 3, 51, 100);
        slowsIs(two, 16, 5, 3, 9, 100);
        slowsIs(two, 16, 7, 3, 9, 100);
        slowsIs(two, 16, 8, 3, 0, 1);
        SlowPaths eight = Due.told("C1~a~0~1~2~3~4~5~6>7");
        slowsIs(eight, 1, 31, 1, 1, 100000000);
        slowsIs(eight, 1, 31, 9, 43046721, 100000000);
        slowsIs(eight, 1, 32, 9, 0, 1);
        for (int g = 0; g < 8; g++) eight.slow(g, 9);
        slowsIs(eight, 1, 95, 10, 1, 1);
        slowsIs(eight, 1, 96, 10, 0, 1);
        slowsIs(eight, 1, 99, 10, 0, 1);
        // a and not a, and the longer the ~ the longer it is wrong
        SlowPaths glitch = Due.told("C1~a&a0>a");
        slowsIs(glitch, 1, 1, 5, 1, 2);
        slowsIs(glitch, 1, 2, 2, 4, 25);
        due.is("delays stay", glitch.count(5), 2);
        due.is("slows is no act", glitch.count(6), 0);
    }

    private static void slowsRefused() {
        SlowPaths none = new SlowPaths();
        slowsIs(none, 0, 0, 0, -3, -3);
        slowsIs(none, 1, 0, 0, -2, -2);
        slowsIs(none, 0, 100, 0, -2, -2);
        slowsIs(none, 0, 0, 11, -2, -2);
        SlowPaths x = Due.told("C1~a>0");
        for (int bad : new int[] {-1, 256, Integer.MIN_VALUE, Integer.MAX_VALUE}) {
            slowsIs(x, bad, 0, 0, -2, -2);
            slowsIs(x, 0, bad, 0, -2, -2);
            slowsIs(x, 0, 0, bad, -2, -2);
        }
        slowsIs(x, 2, 0, 0, -2, -2);
        slowsIs(x, 32, 0, 0, -2, -2);
        slowsIs(x, 0, 0, 11, -2, -2);
    }

    private static void seed() {
        SlowPaths x = new SlowPaths();
        due.is("seed(most)", x.seed(Long.MAX_VALUE), 0);
        due.is("seed(least)", x.seed(Long.MIN_VALUE), Long.MAX_VALUE);
        due.is("seed(-1)", x.seed(-1), Long.MIN_VALUE);
        due.is("seed(0)", x.seed(0), -1);
        due.is("seed(0) again", x.seed(0), 0);
    }

    private static BigInteger next(BigInteger x) {
        return x.multiply(new BigInteger("6364136223846793005")).add(new BigInteger("1442695040888963407"))
                .mod(BigInteger.ONE.shiftLeft(64));
    }

    /** One path, of ~ alone: each pair tests it surely if bit a goes over. */
    private static void drawn() {
        SlowPaths x = Due.told("C2~a>ab");
        BigInteger s = BigInteger.ZERO;
        for (int m = 1; m <= 20; m++) {
            int want = 0;
            for (int i = 0; i < m; i++) {
                s = next(s);
                BigInteger upper = s.shiftRight(33);
                want += upper.testBit(0) != upper.testBit(4) ? 2 : 0;
            }
            due.is("drawn(" + m + ")", x.drawn(m), want);
        }
        due.is("the seed goes on", x.seed(5), s.longValue());
        for (int bad : new int[] {0, -1, 21, Integer.MIN_VALUE, Integer.MAX_VALUE}) due.is("drawn(" + bad + ")", x.drawn(bad), -2);
        due.is("the seed stays when refused", x.seed(0), 5);
        SlowPaths none = new SlowPaths();
        due.is("drawn(1) of none", none.drawn(1), 0);
        due.is("the seed of none goes on", none.seed(0), 1442695040888963407L);
    }

    private static void drawnTogether() {
        SlowPaths x = Due.told("C3&ab|0c&1a>012");
        BigInteger s = BigInteger.valueOf(-8).mod(BigInteger.ONE.shiftLeft(64));
        x.seed(-8);
        int want = 0;
        for (int i = 0; i < 20; i++) {
            s = next(s);
            int upper = s.shiftRight(33).intValueExact();
            int pair = Due.pair(upper & 7, upper >> 4 & 7);
            for (int p = 0; p < 4; p++) want += x.tests(p, pair);
        }
        due.is("drawn(20)", x.drawn(20), want);
        due.is("drawn is no act", x.count(6), 0);
    }
}
