/** Promises 20 to 22: see, unsee, slower. */
public final class SeenTest {
    private static final Due due = new Due("SeenTest");

    public static void main(String[] args) {
        see();
        slower();
        slowerOfBranches();
        bitsThatAreNot();
        due.end();
    }

    private static void see() {
        SlowPaths x = new SlowPaths();
        due.is("unsee() of none", x.unsee(), 0);
        for (int bad : new int[] {-1, 256, Integer.MIN_VALUE, Integer.MAX_VALUE}) {
            due.is("see: pair " + bad, x.see(bad, 0, 0), -2);
            due.is("see: t " + bad, x.see(0, bad, 0), -2);
            due.is("see: late " + bad, x.see(0, 0, bad), -2);
        }
        due.is("see: t 100", x.see(0, 100, 0), -2);
        due.is("see: late 2", x.see(0, 0, 2), -2);
        due.is("none seen", x.count(7), 0);
        due.is("see(255, 99, 1)", x.see(255, 99, 1), 1);
        for (int i = 2; i <= 6; i++) due.is("see " + i, x.see(0, 0, 0), i);
        due.is("see of 7", x.see(0, 0, 0), -4);
        due.is("see of 7, outside", x.see(256, 0, 0), -2);
        due.is("seen", x.count(7), 6);
        due.is("unsee()", x.unsee(), 6);
        due.is("seen behind unsee()", x.count(7), 0);
        due.is("see behind unsee()", x.see(0, 0, 0), 1);
    }

    private static void slower() {
        SlowPaths x = new SlowPaths();
        due.is("slower(0) of none", x.slower(0), 0);
        due.is("slower(1) of none", x.slower(1), -9);
        due.is("slower(2)", x.slower(2), -2);
        due.is("slower(-1)", x.slower(-1), -2);
        Due.type(x, "C1~a~0>1");
        x.circuit();
        due.is("slower(0), nothing seen", x.slower(0), 18);
        due.is("slower(1), nothing seen", x.slower(1), 1);
        x.see(1, 4, 1);
        due.is("late at 4: by 3 or more", x.slower(0), 14);
        due.is("late at 4: the first", x.slower(1), 3);
        x.see(1, 9, 0);
        due.is("not late at 9: by 3 to 7", x.slower(0), 10);
        due.is("not late at 9: the first", x.slower(1), 3);
        x.see(16, 8, 1);
        due.is("falling it is late at 8: by 7", x.slower(0), 2);
        due.is("falling it is late at 8: the first", x.slower(1), 7);
        due.is("delays stay", x.count(5), 2);
        x.slow(0, 4);
        due.is("delays as they are now", x.slower(0), 2);
        due.is("delays as they are now: the first", x.slower(1), 4);
        x.unsee();
        x.see(1, 14, 1);
        due.is("never so late", x.slower(0), 0);
        due.is("never so late: the first", x.slower(1), -9);
        x.unsee();
        x.see(1, 13, 1);
        due.is("by 9", x.slower(0), 2);
    }

    private static void slowerOfBranches() {
        SlowPaths x = Due.told("C2~a~b|01>01");
        x.see(Due.pair(2, 3), 3, 1);
        due.is("a rises, late: gate 0 or 2", x.slower(0), 16);
        x.see(Due.pair(3, 1), 3, 0);
        due.is("b falls, not late: gate 0, or 2 by 1", x.slower(0), 8);
        due.is("b falls, not late: the first", x.slower(1), 2);
        x.see(Due.pair(1, 3), 3, 1);
        due.is("b rises, late as well: none", x.slower(0), 0);
    }

    private static void bitsThatAreNot() {
        SlowPaths x = Due.told("C1~a>0");
        x.see(0xE1, 3, 1);
        due.is("bits of b to d do not matter", x.slower(1), 3);
        x.see(0x0E, 3, 0);
        due.is("nothing goes over: never late", x.slower(0), 7);
        Due.type(x, "C2&ab>aa");
        x.circuit();
        due.is("by another circuit 0xE1 falls to 0 as b does not let", x.slower(0), 0);
    }
}
