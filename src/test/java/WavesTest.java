/** Promises 17 to 19: wave, late, judge. */
public final class WavesTest {
    private static final Due due = new Due("WavesTest");

    public static void main(String[] args) {
        wave();
        waveFar();
        waveOfKinds();
        glitch();
        late();
        judgeActs();
        judgePaths();
        judgeTests();
        judgeRefused();
        due.end();
    }

    private static void wave() {
        SlowPaths x = Due.told("C2&ab~0>01");
        x.slow(0, 3);
        x.slow(1, 2);
        for (int t = 0; t <= 99; t++) {
            due.is("wave(0, 3, " + t + ")", x.wave(0, 3, t), t >= 3 ? 1 : 0);
            due.is("wave(1, 3, " + t + ")", x.wave(1, 3, t), t >= 5 ? 0 : 1);
            due.is("wave(1, 48, " + t + ")", x.wave(1, 48, t), t >= 5 ? 1 : 0);
            due.is("wave(1, 51, " + t + ")", x.wave(1, 51, t), 0);
        }
        for (int bad : new int[] {-1, 100, Integer.MIN_VALUE, Integer.MAX_VALUE}) {
            due.is("wave: t " + bad, x.wave(0, 3, bad), -2);
            due.is("wave: gate " + bad, x.wave(bad, bad, bad), -1);
        }
        for (int bad : new int[] {-1, 4, 64, 256, Integer.MAX_VALUE}) due.is("wave: pair " + bad, x.wave(0, bad, 3), -2);
        due.is("wave(2, 3, 3)", x.wave(2, 3, 3), -1);
    }

    private static void waveFar() {
        SlowPaths x = Due.told("C1~a~0~1~2~3~4~5~6>7");
        for (int delay = 7; delay <= 9; delay++) {
            for (int g = 0; g < 8; g++) x.slow(g, delay);
            for (int g = 0; g < 8; g++)
                for (int t = 0; t <= 99; t++) {
                    int over = t >= delay * (g + 1) ? 1 : 0;
                    due.is("wave(" + g + ", 1, " + t + ")", x.wave(g, 1, t), g % 2 == 0 ? 1 - over : over);
                }
        }
    }

    private static void waveOfKinds() {
        // of a and b: 00, 10, 01, 11
        int[][] made = {{0, 0, 0, 1}, {0, 1, 1, 1}, {1, 1, 1, 0}, {1, 0, 0, 0}};
        SlowPaths x = Due.told("C2&ab>ab");
        x.slow(0, 2);
        for (int kind = 0; kind < 4; kind++) {
            if (kind > 0) x.turn(0, kind);
            for (int first = 0; first < 4; first++)
                for (int second = 0; second < 4; second++) {
                    int pair = Due.pair(first, second);
                    due.is("kind " + kind + ", pair " + pair + ", t 1", x.wave(0, pair, 1), made[kind][first]);
                    due.is("kind " + kind + ", pair " + pair + ", t 2", x.wave(0, pair, 2), made[kind][second]);
                    int late = made[kind][first] != made[kind][second] ? 1 : 0;
                    due.is("kind " + kind + ", pair " + pair + ", late at 1", x.late(pair, 1), late);
                    due.is("kind " + kind + ", pair " + pair + ", late at 2", x.late(pair, 2), 0);
                }
        }
    }

    /** a and not a is 1 for as long as the way through ~ is slower. */
    private static void glitch() {
        SlowPaths x = Due.told("C1~a&a0>a");
        x.slow(0, 4);
        x.slow(1, 2);
        for (int t = 0; t <= 20; t++) {
            due.is("a rises, t " + t, x.late(1, t), t >= 2 && t < 6 ? 1 : 0);
            due.is("a falls, t " + t, x.late(16, t), 0);
        }
    }

    private static void late() {
        SlowPaths x = new SlowPaths();
        due.is("late(0, 0) of none", x.late(0, 0), -3);
        due.is("late(1, 0) of none", x.late(1, 0), -2);
        due.is("late(0, 100) of none", x.late(0, 100), -2);
        due.is("late(0, -1) of none", x.late(0, -1), -2);
        Due.type(x, "C2&ab~0>01");
        x.circuit();
        x.slow(0, 3);
        due.is("late(3, 0)", x.late(3, 0), 1);
        due.is("late(3, 3)", x.late(3, 3), 1);
        due.is("late(3, 4)", x.late(3, 4), 0);
        due.is("late(3, 99)", x.late(3, 99), 0);
        due.is("late(33, 0), the output is as it was", x.late(33, 0), 0);
        due.is("late(4, 0)", x.late(4, 0), -2);
        due.is("late(3, 100)", x.late(3, 100), -2);
        due.is("late(3, -1)", x.late(3, -1), -2);
        due.is("late(-1, 0)", x.late(-1, 0), -2);
        due.is("late(256, 0)", x.late(256, 0), -2);
    }

    private static void judged(SlowPaths x, int n, long row, int want) {
        int kind = x.gate(0, 0), delays = x.count(5), acts = x.count(6);
        due.is("judge(" + n + ", " + row + ")", x.judge(n, row), want);
        due.is("judge changes no kind", x.gate(0, 0), kind);
        due.is("judge changes no delay", x.count(5), delays);
        due.is("judge is no act", x.count(6), acts);
    }

    private static void judgeActs() {
        SlowPaths x = Due.told("C2&ab~0>01");
        judged(x, 1, 1009, -9);
        judged(x, 1, 1001, -9);
        judged(x, 1, 1000, 0);
        judged(x, 1, 1011, 0);
        judged(x, 1, 1105, -9);
        judged(x, 1, 1205, 0);
        judged(x, 1, 1805, 0);
        judged(x, 1, 1905, 0);
        for (int kind = 0; kind <= 3; kind++) judged(x, 1, 2000 + kind, -9);
        judged(x, 1, 2004, 0);
        judged(x, 1, 2009, 0);
        judged(x, 1, 2011, 0);
        judged(x, 1, 2100, 0);
        judged(x, 1, 2104, 0);
        judged(x, 1, 2200, 0);
        judged(x, 2, 20032003L, -9);
        judged(x, 4, 1009_1109_2001_2100L, 3);
        judged(x, 4, 1009_1000_2009_2100L, 1);
    }

    private static void judgePaths() {
        SlowPaths x = Due.told("C2&ab~0>01");
        judged(x, 1, 3002, -9);
        judged(x, 1, 3003, 0);
        judged(x, 1, 3012, -9);
        judged(x, 1, 3020, 0);
        judged(x, 1, 3990, 0);
        judged(x, 2, 10093009L, -9);
        judged(x, 3, 1008_3009_3008L, -9);
        judged(x, 3, 1007_3008_3009L, 2);
        judged(x, 1, 4022, -9);
        judged(x, 1, 4023, 0);
        judged(x, 1, 4031, 0);
        judged(x, 1, 4030, -9);
        judged(x, 1, 4990, -9);
        judged(x, 2, 1009_4102L, -9);
        judged(x, 2, 1009_4111L, 1);
        judged(x, 3, 1009_1109_4182L, -9);
        x.slow(0, 5);
        judged(x, 1, 4062, -9);
        judged(x, 2, 1001_4062L, 1);
    }

    private static void judgeTests() {
        SlowPaths x = Due.told("C3&ab|0c&1a>012");
        judged(x, 1, 5000, 0);
        judged(x, 1, 5001, -9);
        judged(x, 1, 5002, 0);
        judged(x, 1, 5030, -9);
        judged(x, 1, 5031, -9);
        judged(x, 1, 5032, 0);
        judged(x, 1, 5039, 0);
        judged(x, 1, 5040, 0);
        judged(x, 1, 5990, 0);
        judged(x, 1, 6000, -9);
        judged(x, 1, 6001, -9);
        judged(x, 1, 6002, 0);
        judged(x, 1, 6099, 0);
        judged(x, 1, 6100, 0);
        judged(x, 1, 6900, 0);
        judged(x, 2, 2100_6002L, -9);
        judged(x, 4, 2100_6002_2101_6002L, 3);
        judged(x, 2, 2201_5000L, -9);
        due.is("pruned() stays", x.pruned(), 1);
        for (long first : new long[] {0, 7, 8, 9}) judged(x, 1, 1000 * first, 0);
        judged(x, 2, 6000, 0);
        judged(x, 2, 6000_0000L, 1);
        judged(x, 4, 6000_6000_6000_7000L, 3);
    }

    private static void judgeRefused() {
        SlowPaths x = Due.told("C2&ab~0>01");
        for (int n : new int[] {0, -1, 5, Integer.MIN_VALUE, Integer.MAX_VALUE}) due.is("judge: n " + n, x.judge(n, 1), -2);
        due.is("judge: row -1", x.judge(1, -1), -2);
        due.is("judge: row least", x.judge(4, Long.MIN_VALUE), -2);
        due.is("judge: row most", x.judge(4, Long.MAX_VALUE), -2);
        long most = 1;
        for (int n = 1; n <= 4; n++) {
            most *= 10000;
            due.is("judge: too many figures for " + n, x.judge(n, most), -2);
            due.is("judge: as many figures as " + n, x.judge(n, most - 1), 0);
        }
        due.is("judge: no figures", x.judge(3, 0), 0);
        SlowPaths none = new SlowPaths();
        due.is("judge of none: 1", none.judge(1, 1001), 0);
        due.is("judge of none: 3", none.judge(1, 3000), 0);
        due.is("judge of none: 4", none.judge(1, 4000), -9);
        due.is("judge of none: 4, one", none.judge(1, 4001), 0);
        due.is("judge of none: 5", none.judge(1, 5000), 0);
        due.is("judge of none: 6", none.judge(1, 6000), -9);
    }
}
