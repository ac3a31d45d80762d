/** Promises 10 and 11: path, longest. */
public final class PathsTest {
    private static final Due due = new Due("PathsTest");

    public static void main(String[] args) {
        path();
        refused();
        longest();
        due.end();
    }

    private static void pathIs(SlowPaths x, int p, int input, int... gates) {
        due.is("path(" + p + ", 0)", x.path(p, 0), input);
        due.is("path(" + p + ", 1)", x.path(p, 1), gates.length);
        int length = 0;
        for (int i = 0; i < gates.length; i++) {
            due.is("path(" + p + ", " + (3 + i) + ")", x.path(p, 3 + i), gates[i]);
            length += x.gate(gates[i], 3);
        }
        due.is("path(" + p + ", 2)", x.path(p, 2), length);
        due.is("path(" + p + ", " + (3 + gates.length) + ")", x.path(p, 3 + gates.length), -9);
    }

    private static void path() {
        // a to 0, 1, 2; b to 0; 0 to 1, 2; 1 to 2; gate 3 leads nowhere; the output is 4
        SlowPaths x = Due.told("C3&ab|0a&01~b|2c>012");
        for (int round = 0; round < 2; round++) {
            pathIs(x, 0, 0, 0, 1, 2, 4);
            pathIs(x, 1, 0, 0, 2, 4);
            pathIs(x, 2, 0, 1, 2, 4);
            pathIs(x, 3, 1, 0, 1, 2, 4);
            pathIs(x, 4, 1, 0, 2, 4);
            pathIs(x, 5, 2, 4);
            for (int g = 0; g < 5; g++) x.slow(g, 9 - g);
        }
        due.is("paths", x.count(3), 6);
        due.is("length of the first", x.path(0, 2), 9 + 8 + 7 + 5);
        SlowPaths deep = Due.told(CircuitTest.DEEP);
        pathIs(deep, 0, 0, 0, 1, 2, 3, 4, 5, 6, 7);
        pathIs(deep, 1, 0, 0, 1, 2, 3, 4, 5, 7);
        pathIs(deep, 2, 0, 0, 1, 2, 3, 4, 6, 7);
        pathIs(deep, 54, 1, 0, 2, 4, 6, 7);
    }

    private static void refused() {
        SlowPaths x = Due.told("C2&ab>01".replace('1', 'a'));
        for (int p : new int[] {-1, 2, 55, Integer.MIN_VALUE, Integer.MAX_VALUE}) {
            due.is("path(" + p + ", 0)", x.path(p, 0), -1);
            due.is("path(" + p + ", -1)", x.path(p, -1), -1);
        }
        due.is("path(0, -1)", x.path(0, -1), -2);
        due.is("path(0, least)", x.path(0, Integer.MIN_VALUE), -2);
        due.is("path(0, most)", x.path(0, Integer.MAX_VALUE), -9);
        due.is("path(1, 4)", x.path(1, 4), -9);
    }

    private static void longest() {
        SlowPaths x = new SlowPaths();
        due.is("longest(0) of none", x.longest(0), -9);
        due.is("longest(1) of none", x.longest(1), -9);
        due.is("longest(2) of none", x.longest(2), -2);
        due.is("longest(-1) of none", x.longest(-1), -2);
        Due.type(x, "C3&ab|0a&01~b|2c>012");
        x.circuit();
        due.is("longest(0)", x.longest(0), 4);
        due.is("longest(1), first of like ones", x.longest(1), 0);
        Due.type(x, "C2~a~b|01>ab");
        x.circuit();
        due.is("longest(1), first of two", x.longest(1), 0);
        x.slow(1, 3);
        due.is("longest(0), slowed", x.longest(0), 4);
        due.is("longest(1), slowed", x.longest(1), 1);
        x.slow(0, 3);
        due.is("longest(1), both slowed", x.longest(1), 0);
        due.is("longest(2)", x.longest(2), -2);
        due.is("longest(-1)", x.longest(-1), -2);
        SlowPaths most = Due.told("C1~a~0~1~2~3~4~5~6>7");
        for (int g = 0; g < 8; g++) most.slow(g, 9);
        due.is("longest(0) of all", most.longest(0), 72);
    }
}
