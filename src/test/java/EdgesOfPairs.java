/** Boundary cases of promises 12 to 16: value, tests, best, pruned, packed. */
final class EdgesOfPairs {
    private static final int[][] AND = {{0, 0, 0, 0}, {0, 1, 2, 3}, {0, 2, 2, 2}, {0, 3, 2, 3}};
    private static final int[][] OR = {{0, 1, 2, 3}, {1, 1, 1, 1}, {2, 1, 2, 3}, {3, 1, 3, 3}};
    private static final int[] SWAPPED = {1, 0, 3, 2};
    private final Edges e;

    EdgesOfPairs(Edges e) {
        this.e = e;
    }

    void all() {
        patterns();
        values();
        valueRefused();
        tests();
        testsSurely();
        testsRefused();
        launched();
        best();
        bestRefused();
        beginnings();
        pruned();
        packed();
        packedRefused();
    }

    /** A pair by which a has one value and b the other. */
    private static int pairOf(int a, int b) {
        int[] was = {0, 1, 1, 0};
        return Due.pair(was[a] + 2 * was[b], a % 2 + 2 * (b % 2));
    }

    /** One gate, ~ of an input, of so many. */
    static String notOf(int inputs, char input) {
        return "C" + inputs + "~" + input + ">" + "abcd".substring(0, inputs);
    }

    static boolean isPair(int inputs, int pair) {
        return pair >= 0 && pair <= 255 && pair / 16 < 1 << inputs && pair % 16 < 1 << inputs;
    }

    private void patterns() {
        e.about(12, "A PATTERN has a bit for each INPUT (a is 1, b 2, c 4, d 8).");
        for (int i = 0; i < 4; i++) {
            SlowPaths x = Due.told(notOf(4, (char) ('a' + i)));
            for (int pattern = 0; pattern < 16; pattern++)
                e.is("input " + i + " by " + pattern, x.value(0, 17 * pattern), 1 - (pattern >> i & 1));
        }

        e.about(12, "A PAIR are two PATTERNS, the first, the second; it is told as the number of the first one times 16,"
                + " and the second one.");
        SlowPaths x = Due.told(notOf(4, 'd'));
        e.is("d falls", x.value(0, 128), 3);
        e.is("d rises", x.value(0, 8), 2);
        e.is("d rises, all else falls", x.value(0, 7 * 16 + 8), 2);
        e.is("the greatest pair", x.value(0, 255), 0);
        e.is("the least pair", x.value(0, 0), 1);

        e.about(12, "A SIGNAL is STEADY by a PATTERN as GATES make it.");
        x = Due.told("C2&ab|abnaboab~3>01");
        int[][] made = {{0, 0, 0, 1}, {0, 1, 1, 1}, {1, 1, 1, 0}, {1, 0, 0, 0}, {0, 1, 1, 1}};
        for (int g = 0; g < 5; g++)
            for (int pattern = 0; pattern < 4; pattern++)
                e.is("gate " + g + " by " + pattern, x.value(g, 17 * pattern), made[g][pattern]);
    }

    private void values() {
        e.about(12, "VALUES of a SIGNAL by a PAIR: 0: stays 0; 1: stays 1; 2: goes to 0, or may go there and back;"
                + " 3: goes to 1, or may so.");
        SlowPaths x = Due.told("C1~a&a0|a0>a");
        e.is("a and not a, a rises: there and back", x.value(1, 1), 2);
        e.is("a and not a, a falls: may so", x.value(1, 16), 2);
        e.is("a or not a, a rises", x.value(2, 1), 3);
        e.is("a or not a, a falls", x.value(2, 16), 3);
        e.is("a and not a, a stays", x.value(1, 17), 0);
        e.is("a or not a, a stays", x.value(2, 0), 1);

        e.about(12, "An INPUT stays as it is, if both PATTERNS have the same bit, else it is 2 or 3 as the second one has it.");
        for (int i = 0; i < 4; i++) {
            SlowPaths y = Due.told(notOf(4, (char) ('a' + i)));
            int bit = 1 << i, rest = 15 - bit;
            e.is("stays 0, others go over", y.value(0, Due.pair(0, rest)), 1);
            e.is("stays 1, others go over", y.value(0, Due.pair(15, bit)), 0);
            e.is("goes to 0, others stay", y.value(0, Due.pair(15, rest)), 3);
            e.is("goes to 1, others stay", y.value(0, Due.pair(0, bit)), 2);
        }

        String and = "&: 0, if any of its SIGNALS is 0; 1, if both are 1; else 3, if both are 1 or 3; else 2.";
        String or = "|: 1, if any is 1; 0, if both are 0; else 2, if both are 0 or 2; else 3.";
        valuesOf(and, "C2&ab~0>ab", AND, false);
        valuesOf(or, "C2|ab~0>ab", OR, false);
        valuesOf("n, o, ~: 0 and 1, 2 and 3 change places.", "C2nab~0>ab", AND, true);
        valuesOf("n, o, ~: 0 and 1, 2 and 3 change places.", "C2oab~0>ab", OR, true);

        e.about(12, "VALUE of a GATE by a PAIR.");
        x = Due.told("C1~a~0~1~2~3~4~5~6>0");
        for (int g = 0; g < 8; g++) e.is("value(" + g + ", 1)", x.value(g, 1), g % 2 == 0 ? 2 : 3);
    }

    private void valuesOf(String sentence, String text, int[][] table, boolean swapped) {
        e.about(12, sentence);
        SlowPaths x = Due.told(text);
        for (int a = 0; a < 4; a++)
            for (int b = 0; b < 4; b++) {
                int want = swapped ? SWAPPED[table[a][b]] : table[a][b];
                e.is(text + " of " + a + " and " + b, x.value(0, pairOf(a, b)), want);
                e.is(text + ", the ~ of " + want, x.value(1, pairOf(a, b)), SWAPPED[want]);
            }
    }

    private void valueRefused() {
        e.about(12, "UNKNOWN; OUTSIDE: pair (0 to 255, of bits of INPUTS that there are).");
        for (int n = 1; n <= 4; n++) {
            SlowPaths x = Due.told(notOf(n, 'a'));
            for (int pair = -2; pair <= 258; pair++) {
                int a = (pair >> 4 & 1) * 2 + (pair & 1);
                int want = isPair(n, pair) ? new int[] {1, 2, 3, 0}[a] : Edges.OUTSIDE;
                e.is(n + " inputs: value(0, " + pair + ")", x.value(0, pair), want);
            }
        }
        for (int pair : new int[] {-1, 256, Edges.LEAST, Edges.MOST})
            e.refused("value(0, " + pair + ")", o -> o.value(0, pair), Edges.OUTSIDE, State.RICH, State.FULL);
        for (int pair : new int[] {8, 128}) e.refused("value(0, " + pair + ")", o -> o.value(0, pair), Edges.OUTSIDE, State.RICH);
        for (int g : new int[] {-1, 8, Edges.LEAST, Edges.MOST})
            for (int pair : new int[] {0, 256})
                e.refused("value(" + g + ", " + pair + ")", o -> o.value(g, pair), Edges.UNKNOWN, State.values());
        e.refused("value(4, 0) of four", o -> o.value(4, 0), Edges.UNKNOWN, State.RICH);
        e.is("value(3, 0) of four", State.RICH.make().value(3, 0), 1);
    }

    private void tests() {
        e.about(13, "On a PATH at a GATE of two SIGNALS the other one is its SIDE.");
        for (String text : new String[] {"C2&ab>ab", "C2&ba>ab"}) {
            SlowPaths x = Due.told(text);
            e.is(text + ", a goes over, b is 1", x.tests(0, pairOf(3, 1)), 2);
            e.is(text + ", a goes over, b is 0", x.tests(0, pairOf(3, 0)), 0);
            e.is(text + ", b goes over, a is 1", x.tests(1, pairOf(1, 3)), 2);
            e.is(text + ", b goes over, a is 0", x.tests(1, pairOf(0, 3)), 0);
        }
        SlowPaths nots = Due.told("C1~a~0>a");
        e.is("at a GATE of one SIGNAL there is none", nots.tests(0, 1), 2);

        e.about(13, "A PAIR TESTS a PATH (1), if its INPUT goes over, and the SIDE at each GATE is by the second PATTERN"
                + " 1 (& and n), 0 (| and o);");
        for (int kind = 0; kind <= 3; kind++) {
            SlowPaths x = Due.told("C2" + "&|no".charAt(kind) + "ab>ab");
            int lets = kind % 2 == 0 ? 1 : 0;
            for (int a = 0; a < 4; a++)
                for (int b = 0; b < 4; b++) {
                    int want = a >= 2 && b % 2 == lets ? 1 : 0;
                    e.is("kind " + kind + " by " + a + b, Math.min(1, x.tests(0, pairOf(a, b))), want);
                }
        }
        // a way by three gates: one side that does not let is enough
        SlowPaths x = Due.told("C4&ab|0cn1d>abcd");
        e.is("all sides let", x.tests(0, Due.pair(10, 11)), 2);
        e.is("not the first", x.tests(0, Due.pair(8, 9)), 0);
        e.is("not the second", x.tests(0, Due.pair(14, 15)), 0);
        e.is("not the third", x.tests(0, Due.pair(2, 3)), 0);
        e.is("the input stays", x.tests(0, Due.pair(11, 11)), 0);
    }

    private void testsSurely() {
        e.about(13, "SURELY (2), if besides at each GATE at which the SIGNAL of the PATH is by the second PATTERN"
                + " 0 (& and n), 1 (| and o), VALUE of the SIDE is 1, or 0, that is, stays so; else 0.");
        for (int kind = 0; kind <= 3; kind++) {
            SlowPaths x = Due.told("C2" + "&|no".charAt(kind) + "ab>ab");
            int lets = kind % 2 == 0 ? 1 : 0;
            // the side stays, or goes over to what lets: the latter is sure only if the path ends there too
            for (int a = 2; a <= 3; a++) {
                e.is("kind " + kind + ", the side stays", x.tests(0, pairOf(a, lets)), 2);
                e.is("kind " + kind + ", the side goes over", x.tests(0, pairOf(a, 2 + lets)), a % 2 == lets ? 2 : 1);
            }
        }
        SlowPaths x = Due.told("C3&ab|0c>abc");
        e.is("a side that may go there and back is not one that stays", x.tests(2, Due.pair(1, 6)), 1);
        e.is("a side that stays by a 0", x.tests(2, Due.pair(0, 6)), 2);

        e.about(13, "How far a PAIR TESTS a PATH: 0, 1, 2.");
        x = Due.told("C2&ab>ab");
        e.is("0: nothing goes over", x.tests(0, 51), 0);
        e.is("1: a falls while b rises", x.tests(0, pairOf(2, 3)), 1);
        e.is("2: a falls while b stays", x.tests(0, pairOf(2, 1)), 2);
    }

    private void testsRefused() {
        e.about(13, "UNKNOWN; OUTSIDE: pair.");
        for (int n = 1; n <= 4; n++) {
            SlowPaths x = Due.told(notOf(n, 'a'));
            for (int pair = -2; pair <= 258; pair++) {
                int want = !isPair(n, pair) ? Edges.OUTSIDE : (pair >> 4 & 1) != (pair & 1) ? 2 : 0;
                e.is(n + " inputs: tests(0, " + pair + ")", x.tests(0, pair), want);
            }
        }
        for (int pair : new int[] {-1, 256, Edges.LEAST, Edges.MOST})
            e.refused("tests(0, " + pair + ")", o -> o.tests(0, pair), Edges.OUTSIDE, State.RICH, State.FULL);
        for (int p : new int[] {-1, 55, Edges.LEAST, Edges.MOST})
            for (int pair : new int[] {0, 256})
                e.refused("tests(" + p + ", " + pair + ")", o -> o.tests(p, pair), Edges.UNKNOWN, State.values());
        e.refused("tests(4, 0) of four", o -> o.tests(4, 0), Edges.UNKNOWN, State.RICH);
        e.is("tests(3, 0) of four", State.RICH.make().tests(3, 0), 0);
        e.is("tests(54, 0) of 55", State.FULL.make().tests(54, 0), 0);
    }

    private void bestIs(SlowPaths x, int path, int rises, int how, int least, int many) {
        String call = "best(" + path + ", " + rises + ", " + how + ", ";
        e.is(call + "0)", x.best(path, rises, how, 0), least);
        e.is(call + "1)", x.best(path, rises, how, 1), many);
    }

    private void launched() {
        e.about(14, "LAUNCHED (how): 0: any PAIR;");
        for (int n = 1; n <= 4; n++) {
            SlowPaths x = Due.told(notOf(n, 'a'));
            bestIs(x, 0, 1, 0, 1, 1 << (2 * n - 2));
            bestIs(x, 0, 0, 0, 16, 1 << (2 * n - 2));
        }

        e.about(14, "1: the second PATTERN has b as the first has a, c as b, d as c (a may be either);");
        for (int n = 1; n <= 4; n++) {
            SlowPaths x = Due.told(notOf(n, 'a'));
            bestIs(x, 0, 1, 1, 1, 1 << (n - 1));
            bestIs(x, 0, 0, 1, n == 1 ? 16 : 18, 1 << (n - 1));
        }
        bestIs(Due.told(notOf(4, 'd')), 0, 1, 1, Due.pair(4, 8), 8);
        bestIs(Due.told(notOf(4, 'd')), 0, 0, 1, Due.pair(8, 0), 8);
        bestIs(Due.told(notOf(2, 'b')), 0, 1, 1, Due.pair(1, 2), 2);

        e.about(14, "2: the second PATTERN has for each INPUT what its NEXT is, STEADY by the first one.");
        SlowPaths stays = Due.told("C4~a>abcd");
        bestIs(stays, 0, 1, 2, Edges.NONE, 0);
        bestIs(stays, 0, 0, 2, Edges.NONE, 0);
        SlowPaths x = Due.told("C4~a>0bcd");
        bestIs(x, 0, 1, 2, 1, 8);
        bestIs(x, 0, 0, 2, 16, 8);
        x = Due.told("C2~a>ba");
        bestIs(x, 0, 1, 2, Due.pair(2, 1), 1);
        bestIs(x, 0, 0, 2, Due.pair(1, 2), 1);
        x = Due.told("C1~a~0>0");
        bestIs(x, 0, 1, 2, 1, 1);
        bestIs(Due.told("C1~a~0>1"), 0, 1, 2, Edges.NONE, 0);
        x = Due.told("C2&ab>0b");
        bestIs(x, 0, 1, 2, Edges.NONE, 0);
        x.turn(0, 2);
        bestIs(x, 0, 1, 2, 35, 1);
    }

    private void best() {
        e.about(14, "Of PAIRS LAUNCHED so by which a PATH is TESTED SURELY and RISES (1), or FALLS (0): the least"
                + " (what = 0; NONE), how many (1).");
        SlowPaths x = Due.told("C2&ab>ab");
        bestIs(x, 0, 1, 0, 3, 2);
        bestIs(x, 0, 0, 0, 50, 1);
        bestIs(x, 1, 1, 0, 3, 2);
        bestIs(x, 1, 0, 0, 49, 1);
        // by the kinds as they are, not as they were
        x.turn(0, 1);
        bestIs(x, 0, 1, 0, 1, 1);
        bestIs(x, 0, 0, 0, 16, 2);
        x.undo();
        bestIs(x, 0, 0, 0, 50, 1);
        x = Due.told("C2~a&0b>ab");
        bestIs(x, 0, 1, 0, Due.pair(2, 3), 1);
        x.turn(1, 1);
        bestIs(x, 0, 1, 0, Due.pair(0, 1), 2);
        x.turn(1, 2);
        bestIs(x, 0, 1, 0, Due.pair(2, 3), 1);
        SlowPaths none = Due.told("C1~a&a0>a");
        for (int rises = 0; rises <= 1; rises++)
            for (int how = 0; how <= 2; how++) bestIs(none, 0, rises, how, Edges.NONE, 0);

        e.about(14, "It RISES or FALLS as its INPUT does.");
        x = Due.told("C1~a>a");
        bestIs(x, 0, 1, 0, 1, 1);
        bestIs(x, 0, 0, 0, 16, 1);
    }

    private void bestRefused() {
        e.about(14, "UNKNOWN; OUTSIDE: rises, how (0 to 2), what.");
        for (int bad : new int[] {-1, 2, Edges.LEAST, Edges.MOST}) {
            e.refused("best(0, " + bad + ", 0, 0)", o -> o.best(0, bad, 0, 0), Edges.OUTSIDE, State.RICH, State.FULL);
            e.refused("best(0, 0, 0, " + bad + ")", o -> o.best(0, 0, 0, bad), Edges.OUTSIDE, State.RICH, State.FULL);
        }
        for (int bad : new int[] {-1, 3, Edges.LEAST, Edges.MOST})
            e.refused("best(0, 0, " + bad + ", 0)", o -> o.best(0, 0, bad, 0), Edges.OUTSIDE, State.RICH, State.FULL);
        for (int p : new int[] {-1, 55, Edges.LEAST, Edges.MOST}) {
            e.refused("best(" + p + ", 0, 0, 0)", o -> o.best(p, 0, 0, 0), Edges.UNKNOWN, State.values());
            e.refused("best(" + p + ", 2, 3, 2)", o -> o.best(p, 2, 3, 2), Edges.UNKNOWN, State.values());
        }
        e.refused("best(4, 0, 0, 1) of four", o -> o.best(4, 0, 0, 1), Edges.UNKNOWN, State.RICH);
        SlowPaths x = Due.told("C2~a~b&01>ab");
        e.is("best(1, 1, 2, 1) of two", x.best(1, 1, 2, 1), 0);
        e.is("best(2, 1, 2, 1) of two", x.best(2, 1, 2, 1), Edges.UNKNOWN);
    }

    private void prunedOf(String text, int want) {
        e.is("pruned() of " + text, Due.told(text).pruned(), want);
    }

    private void beginnings() {
        e.about(15, "A BEGINNING is an INPUT, that RISES or FALLS, and some GATES that begin a PATH with it, or none:"
                + " it is DEAD, if no PAIR (any) is such that all that is told of SURELY is so at these GATES.");
        prunedOf("C1~a>a", 0);
        // b begins no path but by itself, and that is never dead
        prunedOf("C2~a>ab", 0);
        // the gates that die lead nowhere: they begin no path
        prunedOf("C1~a&a0~a>a", 0);
        // two of the four are tested, but not surely, since the side goes over too
        SlowPaths y = Due.told("C1~a&a0>a");
        e.is("tested as a rises, by the ~", y.tests(0, 1), 1);
        e.is("tested as a falls", y.tests(1, 16), 1);
        e.is("pruned() of what is not tested surely", y.pruned(), 4);
        // b would have to be 0 at gate 0 and 1 at gate 1, for a either way, for b as it falls
        prunedOf("C2|ab&0b>ab", 3);
        // any pair: although by what is captured, and by shifts, none goes over
        SlowPaths x = Due.told("C2&ab>ab");
        e.is("none is captured", x.packed(2, -1), 0);
        e.is("pruned() is by any pair", x.pruned(), 0);
    }

    private void pruned() {
        e.about(15, "PRUNED: BEGINNINGS that are DEAD, while the one that is a GATE shorter is not (PATHS that share a BEGINNING share it).");
        prunedOf("C1~a&a0~1~2>a", 4);
        // a01, a1 go on to 2 and to 23 or 3: four beginnings for all the paths
        prunedOf("C1~a&a0~1&12>a", 4);
        SlowPaths x = Due.told("C1~a&a0~1~1|23>a");
        e.is("four paths", x.count(3), 4);
        e.is("pruned() of what they share", x.pruned(), 4);
        prunedOf("C2&ab|0b>ab", 3);

        e.about(15, "PRUNED: how many.");
        e.is("pruned() of none", new SlowPaths().pruned(), 0);
        x = Due.told("C2&ab>ab");
        for (int kind = 1; kind <= 3; kind++) {
            x.turn(0, kind);
            e.is("pruned() of kind " + kind, x.pruned(), 0);
        }
        x = Due.told("C3&ab|0c&1a>012");
        e.is("pruned()", x.pruned(), 1);
        x.turn(1, 0);
        e.is("pruned(), turned", x.pruned(), 2);
        x.undo();
        e.is("pruned(), undone", x.pruned(), 1);
    }

    private void packedIs(SlowPaths x, int how, int... pairs) {
        e.is("packed(" + how + ", -1)", x.packed(how, -1), pairs.length);
        for (int i = 0; i < pairs.length; i++) e.is("packed(" + how + ", " + i + ")", x.packed(how, i), pairs[i]);
        for (int i : new int[] {pairs.length, pairs.length + 1, 110, 111, Edges.MOST})
            e.is("packed(" + how + ", " + i + ") of " + pairs.length, x.packed(how, i), Edges.NONE);
    }

    private void packed() {
        e.about(16, "PACKED (how): of all PAIRS so LAUNCHED again and again that which TESTS most PATHS SURELY"
                + " (each that RISES, or FALLS, for itself) that none taken yet does; of like ones the least;"
                + " until none TESTS one more.");
        packedIs(Due.told("C1~a>a"), 0, 1, 16);
        packedIs(Due.told("C4~a>abcd"), 0, 1, 16);
        packedIs(Due.told("C4~a>abcd"), 1, 1, 18);
        packedIs(Due.told("C4~a>abcd"), 2);
        packedIs(Due.told("C2&ab>ab"), 0, 3, 49, 50);
        packedIs(Due.told("C2|ab>ab"), 0, 48, 1, 2);
        packedIs(Due.told("C2&ab>ab"), 1, 19, 50);
        packedIs(Due.told("C1~a&a0>a"), 0);

        e.about(16, "PACKED: PAIR i (from 0), how many (i = -1); NONE.");
        for (int how = 0; how <= 2; how++) packedIs(new SlowPaths(), how);
        packedIs(Due.told("C1~a>0"), 2, 1, 16);
    }

    private void packedRefused() {
        e.about(16, "OUTSIDE: how, i less than -1.");
        for (int how : new int[] {-1, 3, Edges.LEAST, Edges.MOST})
            for (int i : new int[] {-1, 0, -2})
                e.refused("packed(" + how + ", " + i + ")", o -> o.packed(how, i), Edges.OUTSIDE, State.values());
        for (int i : new int[] {-2, -3, Edges.LEAST})
            for (int how : new int[] {0, 2})
                e.refused("packed(" + how + ", " + i + ")", o -> o.packed(how, i), Edges.OUTSIDE, State.values());
    }
}
