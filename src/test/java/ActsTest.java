/** Promises 7 to 9: slow, turn, undo. */
public final class ActsTest {
    private static final Due due = new Due("ActsTest");

    public static void main(String[] args) {
        slow();
        turn();
        undo();
        forgotten();
        due.end();
    }

    private static void slow() {
        SlowPaths x = Due.told("C2&ab~0>01");
        due.is("slow(0, 9)", x.slow(0, 9), 1);
        due.is("slow(0, 1)", x.slow(0, 1), 9);
        due.is("slow(1, 5)", x.slow(1, 5), 1);
        due.is("slow(1, 5), as it is", x.slow(1, 5), 5);
        due.is("acts", x.count(6), 4);
        for (int delay : new int[] {0, 10, -1, Integer.MIN_VALUE, Integer.MAX_VALUE})
            due.is("slow(0, " + delay + ")", x.slow(0, delay), -2);
        for (int g : new int[] {-1, 2, 8, Integer.MAX_VALUE}) due.is("slow(" + g + ", 0)", x.slow(g, 0), -1);
        due.is("acts as they were", x.count(6), 4);
        due.is("delays as they were", x.count(5), 6);
        due.is("undo() of what was as it is", x.undo(), 3);
        due.is("delay as it was", x.gate(1, 3), 5);
    }

    private static void turn() {
        SlowPaths x = Due.told("C2&ab~0>01");
        due.is("turn(0, 3)", x.turn(0, 3), 0);
        due.is("turn(0, 1)", x.turn(0, 1), 3);
        due.is("turn(0, 2)", x.turn(0, 2), 1);
        due.is("turn(0, 2), is so", x.turn(0, 2), -3);
        due.is("turn(0, 0)", x.turn(0, 0), 2);
        due.is("turn(1, 0), ~", x.turn(1, 0), -3);
        due.is("turn(1, 3), ~", x.turn(1, 3), -3);
        due.is("turn(1, 4), ~", x.turn(1, 4), -2);
        due.is("turn(0, 4)", x.turn(0, 4), -2);
        due.is("turn(0, -1)", x.turn(0, -1), -2);
        for (int g : new int[] {-1, 2, 8, Integer.MIN_VALUE}) due.is("turn(" + g + ", 9)", x.turn(g, 9), -1);
        due.is("acts", x.count(6), 4);
        due.is("kind", x.gate(0, 0), 0);
        due.is("kind of ~", x.gate(1, 0), 4);
    }

    private static void undo() {
        SlowPaths x = Due.told("C2&ab~0>01");
        due.is("undo() of none", x.undo(), -3);
        x.slow(0, 4);
        x.turn(0, 1);
        x.slow(0, 6);
        x.turn(0, 3);
        x.slow(1, 2);
        int[][] want = {{3, 6, 1}, {1, 6, 1}, {1, 4, 1}, {0, 4, 1}, {0, 1, 1}};
        for (int i = 0; i < 5; i++) {
            due.is("undo() " + i, x.undo(), 4 - i);
            due.is("kind behind undo() " + i, x.gate(0, 0), want[i][0]);
            due.is("delay behind undo() " + i, x.gate(0, 3), want[i][1]);
            due.is("other delay behind undo() " + i, x.gate(1, 3), want[i][2]);
        }
        due.is("undo() of none left", x.undo(), -3);
        x.turn(0, 1);
        due.is("tests turned", x.tests(0, Due.pair(0, 1)), 2);
        x.undo();
        due.is("tests turned back", x.tests(0, Due.pair(0, 1)), 0);
    }

    private static void forgotten() {
        SlowPaths x = Due.told("C2&ab~0>01");
        x.slow(0, 2);
        x.turn(0, 1);
        for (int i = 0; i < 12; i++) x.slow(1, 3 + i % 2);
        due.is("acts are 14", x.count(6), 14);
        x.slow(1, 9);
        due.is("acts stay 14", x.count(6), 14);
        for (int left = 13; left >= 0; left--) due.is("undo()", x.undo(), left);
        due.is("undo() of what is forgotten", x.undo(), -3);
        due.is("the first one stays", x.gate(0, 3), 2);
        due.is("the second one is undone", x.gate(0, 0), 0);
        due.is("the others are undone", x.gate(1, 3), 1);
    }
}
