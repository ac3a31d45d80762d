/** Promises 12 to 16: value, tests, best, pruned, packed. */
public final class PairsTest {
    private static final Due due = new Due("PairsTest");
    private static final int[][] AND = {{0, 0, 0, 0}, {0, 1, 2, 3}, {0, 2, 2, 2}, {0, 3, 2, 3}};
    private static final int[][] OR = {{0, 1, 2, 3}, {1, 1, 1, 1}, {2, 1, 2, 3}, {3, 1, 3, 3}};
    private static final int[] SWAPPED = {1, 0, 3, 2};
    private static final int[] BAD_OF_TWO = {-1, 256, 4, 8, 15, 64, 128, 255, Integer.MIN_VALUE, Integer.MAX_VALUE};

    public static void main(String[] args) {
        value();
        tests();
        testsFurther();
        best();
        bestCaptured();
        pruned();
        packed();
        packedMore();
        due.end();
    }

    /** A pair by which a has one value and b the other. */
    private static int pairOf(int a, int b) {
        int[] was = {0, 1, 1, 0};
        return Due.pair(was[a] + 2 * was[b], a % 2 + 2 * (b % 2));
    }

    private static void value() {
        SlowPaths x = Due.told("C2&ab~0>01");
        for (int kind = 0; kind < 4; kind++) {
            if (kind > 0) x.turn(0, kind);
            for (int a = 0; a < 4; a++)
                for (int b = 0; b < 4; b++) {
                    int plain = (kind % 2 == 0 ? AND : OR)[a][b];
                    int want = kind < 2 ? plain : SWAPPED[plain];
                    due.is("value of kind " + kind + " of " + a + b, x.value(0, pairOf(a, b)), want);
                    due.is("value of ~ of " + want, x.value(1, pairOf(a, b)), SWAPPED[want]);
                }
        }
        for (int pair : BAD_OF_TWO) {
            due.is("value(0, " + pair + ")", x.value(0, pair), -2);
            due.is("value(2, " + pair + ")", x.value(2, pair), -1);
        }
        due.is("value(-1, 0)", x.value(-1, 0), -1);
        due.is("value(2, 0)", x.value(2, 0), -1);
        SlowPaths four = Due.told("C4&cd>abcd");
        due.is("value(0, 255)", four.value(0, 255), 1);
        due.is("value(0, 12)", four.value(0, 12), 3);
        due.is("value(0, 256)", four.value(0, 256), -2);
    }

    private static void tests() {
        SlowPaths x = Due.told("C2&ab>ab");
        // of a, the path, and b, the side, by kinds: & and n, then | and o
        int[][] and = {{0, 0, 0, 0}, {0, 0, 0, 0}, {0, 2, 0, 1}, {0, 2, 0, 2}};
        int[][] or = {{0, 0, 0, 0}, {0, 0, 0, 0}, {2, 0, 2, 0}, {2, 0, 1, 0}};
        for (int kind = 0; kind < 4; kind++) {
            if (kind > 0) x.turn(0, kind);
            for (int a = 0; a < 4; a++)
                for (int b = 0; b < 4; b++) {
                    int want = (kind % 2 == 0 ? and : or)[a][b];
                    due.is("tests(0) of kind " + kind + " by " + a + b, x.tests(0, pairOf(a, b)), want);
                    due.is("tests(1) of kind " + kind + " by " + b + a, x.tests(1, pairOf(b, a)), want);
                }
        }
        for (int pair : BAD_OF_TWO) {
            due.is("tests(0, " + pair + ")", x.tests(0, pair), -2);
            due.is("tests(2, " + pair + ")", x.tests(2, pair), -1);
        }
        due.is("tests(-1, 0)", x.tests(-1, 0), -1);
    }

    private static void testsFurther() {
        SlowPaths not = Due.told("C1~a~0>a");
        int[] want = {0, 2, 2, 0};
        int[] pairs = {0, 1, 16, 17};
        for (int i = 0; i < 4; i++) due.is("tests of ~~ by " + pairs[i], not.tests(0, pairs[i]), want[i]);
        // at gate 1 the side is c, and what comes is 0 when a falls, 1 when it rises
        SlowPaths x = Due.told("C3&ab|0c>abc");
        due.is("a rises, c falls", x.tests(0, Due.pair(6, 3)), 1);
        due.is("a rises, c stays 0", x.tests(0, Due.pair(2, 3)), 2);
        due.is("a falls, c falls", x.tests(0, Due.pair(7, 2)), 2);
        due.is("a falls, b rises, c falls", x.tests(0, Due.pair(5, 2)), 1);
        due.is("a falls, c rises", x.tests(0, Due.pair(3, 6)), 0);
        due.is("c rises, the side may go there and back", x.tests(2, Due.pair(1, 6)), 1);
        due.is("c falls, the side may go there and back", x.tests(2, Due.pair(5, 2)), 2);
    }

    private static void best() {
        SlowPaths x = Due.told("C2&ab>0b");
        int[][] want = {
            // path, rises, how, the least, how many
            {0, 1, 0, 3, 2}, {0, 0, 0, 50, 1}, {1, 1, 0, 3, 2}, {1, 0, 0, 49, 1},
            {0, 1, 1, -9, 0}, {0, 0, 1, 50, 1}, {1, 1, 1, 19, 1}, {1, 0, 1, -9, 0},
            {0, 1, 2, -9, 0}, {0, 0, 2, -9, 0}, {1, 1, 2, -9, 0}, {1, 0, 2, -9, 0}};
        for (int[] w : want) {
            String call = "best(" + w[0] + ", " + w[1] + ", " + w[2] + ", ";
            due.is(call + "0)", x.best(w[0], w[1], w[2], 0), w[3]);
            due.is(call + "1)", x.best(w[0], w[1], w[2], 1), w[4]);
        }
        for (int bad : new int[] {-1, Integer.MIN_VALUE, Integer.MAX_VALUE, 3}) {
            due.is("best: rises " + bad, x.best(0, bad, 0, 0), -2);
            due.is("best: how " + bad, x.best(0, 0, bad, 0), -2);
            due.is("best: what " + bad, x.best(0, 0, 0, bad), -2);
            due.is("best: path " + bad, x.best(bad, bad, bad, bad), -1);
        }
        due.is("best: rises 2", x.best(0, 2, 0, 0), -2);
        due.is("best: what 2", x.best(0, 0, 0, 2), -2);
        due.is("best: path 2", x.best(2, 0, 0, 0), -1);
        SlowPaths one = Due.told("C1~a>a");
        due.is("one input shifts as it likes, rising", one.best(0, 1, 1, 0), 1);
        due.is("one input shifts as it likes, falling", one.best(0, 0, 1, 0), 16);
        SlowPaths four = Due.told("C4&ad>abcd");
        // d rises while a ends at 1: first has c and not d, second d, a and what shifted
        due.is("four inputs shift", four.best(1, 1, 1, 0), Due.pair(4, 9));
        due.is("four inputs shift: how many", four.best(1, 1, 1, 1), 4);
        due.is("four inputs: any", four.best(1, 1, 0, 1), 32);
    }

    private static void bestCaptured() {
        SlowPaths x = Due.told("C2nab>0b");
        due.is("captured, rises", x.best(0, 1, 2, 0), 35);
        due.is("captured, rises: how many", x.best(0, 1, 2, 1), 1);
        due.is("captured, falls", x.best(0, 0, 2, 0), 50);
        x.turn(0, 0);
        due.is("captured, turned", x.best(0, 1, 2, 0), -9);
        x.undo();
        due.is("captured, undone", x.best(0, 1, 2, 0), 35);
        Due.type(x, "C2nab>bb");
        x.circuit();
        // a becomes what b was: only from a = 0, b = 1 does it rise, and then b stays 1
        due.is("captured by other nexts", x.best(0, 1, 2, 0), 35);
        due.is("captured by other nexts, falls", x.best(0, 0, 2, 0), -9);
    }

    private static void pruned() {
        due.is("pruned() of &", Due.told("C2&ab>ab").pruned(), 0);
        due.is("pruned() of ~~", Due.told("C1~a~0>a").pruned(), 0);
        // a and not a: both ways in die at the gate, whether a rises or falls
        SlowPaths x = Due.told("C1~a&a0>a");
        due.is("pruned() of a & ~a", x.pruned(), 4);
        due.is("count(4) of a & ~a", x.count(4), 0);
        due.is("packed of a & ~a", x.packed(0, -1), 0);
        due.is("pruned() while it goes on", Due.told("C1~a&a0~1>a").pruned(), 4);
        SlowPaths shared = Due.told("C1~a&a0~1&12>a");
        due.is("four paths", shared.count(3), 4);
        due.is("pruned() of shared beginnings", shared.pruned(), 4);
        // b has to be 1 at gate 0 and 0 at gate 1: a dies there; b itself dies by gate 0 if it rises
        due.is("pruned() of a & b | b", Due.told("C2&ab|0b>ab").pruned(), 3);
        SlowPaths fewer = Due.told("C3~a|bc>abc");
        due.is("pruned() of more inputs", fewer.pruned(), 0);
        Due.type(fewer, "C1~a&a0>a");
        fewer.circuit();
        due.is("pruned() of fewer inputs", fewer.pruned(), 4);
        SlowPaths turned = Due.told("C3&ab|0c&1a>012");
        due.is("pruned()", turned.pruned(), 1);
        due.is("count(4)", turned.count(4), 7);
        turned.turn(1, 0);
        due.is("pruned(), turned: a by two ways into &", turned.pruned(), 2);
        due.is("count(4), turned", turned.count(4), 6);
    }

    private static void packedIs(SlowPaths x, int how, int... pairs) {
        due.is("packed(" + how + ", -1)", x.packed(how, -1), pairs.length);
        for (int i = 0; i < pairs.length; i++) due.is("packed(" + how + ", " + i + ")", x.packed(how, i), pairs[i]);
        due.is("packed(" + how + ", " + pairs.length + ")", x.packed(how, pairs.length), -9);
        due.is("packed(" + how + ", most)", x.packed(how, Integer.MAX_VALUE), -9);
    }

    private static void packed() {
        SlowPaths x = Due.told("C2&ab>0b");
        packedIs(x, 0, 3, 49, 50);
        packedIs(x, 1, 19, 50);
        packedIs(x, 2);
        for (int bad : new int[] {-1, 3, Integer.MIN_VALUE, Integer.MAX_VALUE})
            due.is("packed(" + bad + ", 0)", x.packed(bad, 0), -2);
        due.is("packed(0, -2)", x.packed(0, -2), -2);
        due.is("packed(0, least)", x.packed(0, Integer.MIN_VALUE), -2);
        due.is("packed(3, -2)", x.packed(3, -2), -2);
        SlowPaths none = new SlowPaths();
        packedIs(none, 0);
        packedIs(none, 2);
        due.is("packed(3, 0) of none", none.packed(3, 0), -2);
    }

    private static void packedMore() {
        packedIs(Due.told("C1~a>a"), 0, 1, 16);
        packedIs(Due.told("C1~a>0"), 2, 1, 16);
        packedIs(Due.told("C1~a>a"), 2);
        // | takes what & does the other way: both fall together, each rises alone
        packedIs(Due.told("C2|ab>ab"), 0, 48, 1, 2);
        // the same path rises and falls: each for itself
        SlowPaths x = Due.told("C2&ab>ab");
        x.turn(0, 1);
        packedIs(x, 0, 48, 1, 2);
        x.undo();
        packedIs(x, 0, 3, 49, 50);
    }
}
