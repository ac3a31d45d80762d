/** Boundary cases of promises 17 to 19: wave, late, judge. */
final class EdgesOfWaves {
    private static final String NOTS = "C1~a~0~1~2~3~4~5~6>a";
    private final Edges e;

    EdgesOfWaves(Edges e) {
        this.e = e;
    }

    void all() {
        wave();
        waveFar();
        waveRefused();
        late();
        lateRefused();
        judgeSlowed();
        judgeTurned();
        judgeLengths();
        judgeMany();
        judgeTests();
        judgePruned();
        judgePlaces();
        judgeRefused();
    }

    private void wave() {
        e.about(17, "WAVE of a SIGNAL at a time t: an INPUT is as by the first PATTERN below 0, as by the second one from 0 on;"
                + " a GATE is what it makes of its SIGNALS at t less its DELAY.");
        for (int delay = 1; delay <= 9; delay++) {
            SlowPaths x = Due.told("C1~a>a");
            x.slow(0, delay);
            for (int t = 0; t <= 20; t++) {
                e.is("delay " + delay + ": wave(0, 1, " + t + ")", x.wave(0, 1, t), t >= delay ? 0 : 1);
                e.is("delay " + delay + ": wave(0, 16, " + t + ")", x.wave(0, 16, t), t >= delay ? 1 : 0);
            }
        }
        // a and not a: 1 from the one way's time to the other's
        SlowPaths x = Due.told("C1~a&a0>a");
        x.slow(0, 9);
        for (int t = 0; t <= 20; t++) e.is("a and not a at " + t, x.wave(1, 1, t), t >= 1 && t < 10 ? 1 : 0);
        x = Due.told("C2&ab|abnaboab>ab");
        int[] made = {0b1000, 0b1110, 0b0111, 0b0001};
        for (int g = 0; g < 4; g++)
            for (int first = 0; first < 4; first++)
                for (int second = 0; second < 4; second++) {
                    int pair = Due.pair(first, second);
                    e.is("kind " + g + " by " + pair + " at 0", x.wave(g, pair, 0), made[g] >> first & 1);
                    e.is("kind " + g + " by " + pair + " at 1", x.wave(g, pair, 1), made[g] >> second & 1);
                }
    }

    private void waveFar() {
        e.about(17, "WAVE of a GATE: 0, 1.");
        SlowPaths x = Due.told(NOTS);
        for (int g = 0; g < 8; g++) x.slow(g, 9);
        for (int g = 0; g < 8; g++) {
            int over = 9 * (g + 1);
            int was = g % 2 == 0 ? 1 : 0;
            e.is("gate " + g + " at 0", x.wave(g, 1, 0), was);
            e.is("gate " + g + " at its time less 1", x.wave(g, 1, over - 1), was);
            e.is("gate " + g + " at its time", x.wave(g, 1, over), 1 - was);
            e.is("gate " + g + " at 63", x.wave(g, 1, 63), 63 >= over ? 1 - was : was);
            e.is("gate " + g + " at 64", x.wave(g, 1, 64), 64 >= over ? 1 - was : was);
            e.is("gate " + g + " at 99", x.wave(g, 1, 99), 1 - was);
        }
    }

    private void waveRefused() {
        e.about(17, "UNKNOWN; OUTSIDE: pair, t (0 to 99).");
        for (int n = 1; n <= 4; n++) {
            SlowPaths x = Due.told(EdgesOfPairs.notOf(n, 'a'));
            for (int pair = -2; pair <= 258; pair++)
                e.is(n + " inputs: wave(0, " + pair + ", 99)", x.wave(0, pair, 99),
                        EdgesOfPairs.isPair(n, pair) ? 1 - (pair & 1) : Edges.OUTSIDE);
        }
        for (int t : new int[] {-1, 100, Edges.LEAST, Edges.MOST})
            e.refused("wave(0, 3, " + t + ")", o -> o.wave(0, 3, t), Edges.OUTSIDE, State.RICH, State.FULL);
        for (int pair : new int[] {-1, 256, 8, Edges.LEAST, Edges.MOST})
            e.refused("wave(0, " + pair + ", 0)", o -> o.wave(0, pair, 0), Edges.OUTSIDE, State.RICH, State.FULL);
        for (int g : new int[] {-1, 8, Edges.LEAST, Edges.MOST}) {
            e.refused("wave(" + g + ", 0, 0)", o -> o.wave(g, 0, 0), Edges.UNKNOWN, State.values());
            e.refused("wave(" + g + ", 256, 100)", o -> o.wave(g, 256, 100), Edges.UNKNOWN, State.values());
        }
        e.refused("wave(4, 0, 0) of four", o -> o.wave(4, 0, 0), Edges.UNKNOWN, State.RICH);
        e.refused("wave(0, 0, 0) of none", o -> o.wave(0, 0, 0), Edges.UNKNOWN, State.FRESH);
    }

    private void late() {
        e.about(18, "LATE by a PAIR and t (0 to 99): THE OUTPUT is not then as by the second PATTERN.");
        SlowPaths x = Due.told(NOTS);
        for (int g = 0; g < 8; g++) x.slow(g, 9);
        for (int t = 0; t <= 99; t++) {
            e.is("late(1, " + t + ")", x.late(1, t), t < 72 ? 1 : 0);
            e.is("late(17, " + t + ")", x.late(17, t), 0);
        }

        e.about(18, "1 if it is LATE, 0.");
        x = Due.told("C1~a>a");
        e.is("late(1, 0)", x.late(1, 0), 1);
        e.is("late(1, 1)", x.late(1, 1), 0);
        e.is("late(16, 0)", x.late(16, 0), 1);
        e.is("late(16, 1)", x.late(16, 1), 0);
        // late only for a while: at first it is as it will be
        x = Due.told("C1~a&a0>a");
        e.is("late(1, 0)", x.late(1, 0), 0);
        e.is("late(1, 1)", x.late(1, 1), 1);
        e.is("late(1, 2)", x.late(1, 2), 0);
    }

    private void lateRefused() {
        e.about(18, "OUTSIDE: pair, t (0 to 99); STATE: there is no GATE.");
        for (int n = 1; n <= 4; n++) {
            SlowPaths x = Due.told(EdgesOfPairs.notOf(n, 'a'));
            for (int pair = -2; pair <= 258; pair++)
                e.is(n + " inputs: late(" + pair + ", 99)", x.late(pair, 99), EdgesOfPairs.isPair(n, pair) ? 0 : Edges.OUTSIDE);
        }
        for (int t : new int[] {-1, 100, Edges.LEAST, Edges.MOST})
            e.refused("late(0, " + t + ")", o -> o.late(0, t), Edges.OUTSIDE, State.values());
        for (int pair : new int[] {-1, 256, 8, 128, Edges.LEAST, Edges.MOST})
            e.refused("late(" + pair + ", 0)", o -> o.late(pair, 0), Edges.OUTSIDE, State.values());
        for (int t : new int[] {0, 99}) e.refused("late(0, " + t + ") of none", o -> o.late(0, t), Edges.STATE, State.FRESH);
        for (int pair : new int[] {1, 16, 255})
            e.refused("late(" + pair + ", 0) of none", o -> o.late(pair, 0), Edges.OUTSIDE, State.FRESH);
    }

    private void judged(SlowPaths x, int n, long row, int want) {
        e.is("judge(" + n + ", " + row + ")", x.judge(n, row), want);
    }

    /** One doing that can be (or is so), or not. */
    private void can(SlowPaths x, int doing, boolean can) {
        judged(x, 1, doing, can ? Edges.NONE : 0);
    }

    private void judgeSlowed() {
        e.about(19, "1, a GATE, 0, d: SLOWED (also as it is);");
        SlowPaths x = Due.told("C2&ab~0>01");
        for (int gate = 0; gate <= 9; gate++)
            for (int delay = 0; delay <= 9; delay++) can(x, 1000 + 100 * gate + delay, gate <= 1 && delay >= 1);
        for (int middle = 1; middle <= 9; middle++) can(x, 1001 + 10 * middle, false);
        x = Due.told(NOTS);
        can(x, 1701, true);
        can(x, 1709, true);
        can(x, 1801, false);
        can(new SlowPaths(), 1001, false);
        judged(x, 2, 1009_3009L, Edges.NONE);
        judged(x, 4, 1009_1709_4261L, 0);
        judged(x, 3, 1009_1709_4241L, Edges.NONE);
        judged(x, 3, 1009_1709_4251L, 2);
    }

    private void judgeTurned() {
        e.about(19, "2, a GATE, 0, a KIND: TURNED (also as it is);");
        SlowPaths x = Due.told("C2&ab|0an1bo20~3>01");
        for (int gate = 0; gate <= 9; gate++)
            for (int kind = 0; kind <= 9; kind++) can(x, 2000 + 100 * gate + kind, gate <= 3 && kind <= 3);
        for (int middle = 1; middle <= 9; middle++) can(x, 2001 + 10 * middle, false);
        can(new SlowPaths(), 2000, false);
        judged(x, 4, 2003_2003_2000_2000L, Edges.NONE);
        // turned for what comes behind it in the row alone
        x = Due.told("C3&ab|0c&1a>012");
        judged(x, 2, 2100_6002L, Edges.NONE);
        judged(x, 2, 6002_2100L, 0);
        e.is("the kind stays", x.gate(1, 0), 1);
    }

    private void judgeLengths() {
        e.about(19, "3, two figures a PATH, v: LENGTH of it is v or more;");
        SlowPaths x = Due.told("C2&ab~0>01");
        x.slow(0, 4);
        for (int v = 0; v <= 9; v++) {
            can(x, 3000 + v, v <= 5);
            can(x, 3010 + v, v <= 5);
            can(x, 3020 + v, false);
            can(x, 3990 + v, false);
        }
        can(new SlowPaths(), 3000, false);
        x = Due.told(CircuitTest.DEEP);
        can(x, 3545, true);
        can(x, 3546, false);
        can(x, 3550, false);
        judged(x, 2, 1709_3549L, Edges.NONE);
        judged(x, 2, 1704_3549L, 1);
        judged(x, 2, 1705_3549L, Edges.NONE);
    }

    private void judgeMany() {
        e.about(19, "4, two figures t, v: v PATHS or more have a LENGTH of t or more;");
        // of the lengths 3, 3 and 2
        SlowPaths x = Due.told("C3~a~b~c|01|32>abc");
        int[] many = {3, 3, 3, 2, 0};
        for (int t = 0; t <= 4; t++) for (int v = 0; v <= 9; v++) can(x, 4000 + 10 * t + v, v <= many[t]);
        can(x, 4990, true);
        can(x, 4991, false);
        can(new SlowPaths(), 4000, true);
        can(new SlowPaths(), 4990, true);
        can(new SlowPaths(), 4001, false);
        x = Due.told(NOTS);
        for (int g = 0; g < 8; g++) x.slow(g, 9);
        can(x, 4721, true);
        can(x, 4722, false);
        can(x, 4731, false);
        can(Due.told(CircuitTest.DEEP), 4009, true);
    }

    private void judgeTests() {
        e.about(19, "5, two figures a PATH, 0 or 1: it can be TESTED SURELY so that it FALLS (0), RISES (1);");
        SlowPaths x = Due.told("C3&ab|0c&1a>012");
        boolean[][] can = {{false, true}, {true, true}, {true, true}, {true, true}};
        for (int p = 0; p < 4; p++) for (int v = 0; v <= 9; v++) can(x, 5000 + 10 * p + v, v <= 1 && can[p][v]);
        for (int p : new int[] {4, 55, 99}) for (int v = 0; v <= 2; v++) can(x, 5000 + 10 * p + v, false);
        can(new SlowPaths(), 5000, false);
        SlowPaths none = Due.told("C1~a&a0>a");
        for (int v = 0; v <= 1; v++) can(none, 5000 + v, false);
        judged(x, 2, 2201_5000L, Edges.NONE);
        judged(none, 2, 2101_5000L, 1);
    }

    private void judgePruned() {
        e.about(19, "6, 0, two figures: PRUNED are so many or more)");
        SlowPaths x = Due.told("C1~a&a0>a");
        for (int many = 0; many <= 99; many++) can(x, 6000 + many, many <= 4);
        for (int middle = 1; middle <= 9; middle++) can(x, 6000 + 100 * middle, false);
        can(new SlowPaths(), 6000, true);
        can(new SlowPaths(), 6001, false);
        e.is("so many are pruned", x.pruned(), 4);
        // so many that both figures count: no circuit was found of which more are pruned
        x = Due.told("C4|ac&0b&01&12&23n34|45n65>aaaa");
        e.is("so many are pruned", x.pruned(), 64);
        for (int many = 0; many <= 99; many++) can(x, 6000 + many, many <= 64);
        for (int middle = 1; middle <= 9; middle++) can(x, 6000 + 100 * middle + 10, false);
    }

    private void judgePlaces() {
        e.about(19, "JUDGED: n doings (1 to 4), told as four figures each (");
        SlowPaths x = Due.told("C2&ab~0>01");
        judged(x, 0, 0, Edges.OUTSIDE);
        judged(x, 1, 1009, Edges.NONE);
        judged(x, 2, 1009_1109L, Edges.NONE);
        judged(x, 3, 1009_1109_3009L, Edges.NONE);
        judged(x, 4, 1009_1109_3009_4182L, Edges.NONE);
        judged(x, 5, 0, Edges.OUTSIDE);
        for (int first = 0; first <= 9; first++) can(x, 1000 * first + (first == 1 ? 1 : 0), first >= 1 && first <= 6);

        e.about(19, ": the place of the first that can not be (or is not so); NONE: none.");
        judged(x, 4, 9000_1001_1001_1001L, 0);
        judged(x, 4, 1001_9000_1001_1001L, 1);
        judged(x, 4, 1001_1001_9000_1001L, 2);
        judged(x, 4, 1001_1001_1001_9000L, 3);
        judged(x, 4, 1001_1001_1001_1001L, Edges.NONE);
        judged(x, 4, 1001_9000_9000_9000L, 1);
        judged(x, 4, 1001, 0);
        judged(x, 1, 0, 0);
        judged(x, 2, 1001_0000L, 1);
        judged(x, 2, 1009_3009L, Edges.NONE);
        judged(x, 2, 3009_1009L, 0);

        e.about(19, "JUDGED; NONE.");
        for (long row : new long[] {0, 1009_1109_2002_4182L, 9999_9999_9999_9999L, 2001_2103_6001_5001L})
            e.unchanged("judge(4, " + row + ")", o -> o.judge(4, row), State.values());
    }

    private void judgeRefused() {
        e.about(19, "OUTSIDE: n, row (0 or more, 4 n figures at most).");
        for (int n : new int[] {0, 5, -1, Edges.LEAST, Edges.MOST})
            for (long row : new long[] {0, 1001})
                e.refused("judge(" + n + ", " + row + ")", o -> o.judge(n, row), Edges.OUTSIDE, State.values());
        long above = 1;
        for (int n = 1; n <= 4; n++) {
            above *= 10000;
            int many = n;
            for (long row : new long[] {-1, above, above + 1001, Long.MIN_VALUE, Long.MAX_VALUE})
                e.refused("judge(" + n + ", " + row + ")", o -> o.judge(many, row), Edges.OUTSIDE, State.values());
            for (long row : new long[] {0, above - 1}) judged(State.RICH.make(), n, row, 0);
        }
    }
}
