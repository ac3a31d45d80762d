/** Promises 27 to 29: keep, again, count. */
public final class SlotsTest {
    private static final Due due = new Due("SlotsTest");

    public static void main(String[] args) {
        slots();
        slotsOfNone();
        count();
        countProven();
        due.end();
    }

    private static void slots() {
        SlowPaths x = Due.told("C2&ab~0>01");
        for (int bad : new int[] {-1, 2, Integer.MIN_VALUE, Integer.MAX_VALUE}) {
            due.is("keep(" + bad + ")", x.keep(bad), -1);
            due.is("again(" + bad + ")", x.again(bad), -1);
        }
        due.is("again(0) of none", x.again(0), -3);
        x.slow(0, 7);
        x.turn(0, 1);
        due.is("keep(0)", x.keep(0), 2);
        due.is("acts stay when kept", x.count(6), 2);
        due.is("again(1) of none", x.again(1), -3);
        due.is("acts stay when refused", x.count(6), 2);
        x.slow(0, 3);
        x.slow(1, 4);
        x.turn(0, 2);
        due.is("keep(1)", x.keep(1), 2);
        due.is("again(0)", x.again(0), 2);
        due.is("kind of slot 0", x.gate(0, 0), 1);
        due.is("delay of slot 0", x.gate(0, 3), 7);
        due.is("other delay of slot 0", x.gate(1, 3), 1);
        due.is("acts are none", x.count(6), 0);
        due.is("undo()", x.undo(), -3);
        due.is("tests by slot 0", x.best(0, 1, 0, 0), 1);
        due.is("again(1)", x.again(1), 2);
        due.is("kind of slot 1", x.gate(0, 0), 2);
        due.is("delays of slot 1", x.count(5), 7);
        due.is("tests by slot 1", x.best(0, 1, 0, 0), 3);
        x.slow(1, 9);
        due.is("again(1) a second time", x.again(1), 2);
        due.is("what is kept stays as it was", x.count(5), 7);
        x.slow(1, 9);
        x.keep(1);
        x.slow(1, 1);
        x.again(1);
        due.is("what is kept anew", x.gate(1, 3), 9);
    }

    private static void slotsOfNone() {
        SlowPaths x = new SlowPaths();
        due.is("again(0) of none", x.again(0), -3);
        due.is("keep(0) of none", x.keep(0), 0);
        due.is("again(0) of no gates", x.again(0), 0);
        due.is("again(1) of none", x.again(1), -3);
        Due.type(x, "C1~a>0");
        x.circuit();
        due.is("again(0) behind circuit()", x.again(0), -3);
        x.see(1, 1, 1);
        x.seed(9);
        x.keep(0);
        x.unsee();
        x.seed(3);
        x.again(0);
        due.is("seen is not kept", x.count(7), 0);
        due.is("the seed is not kept", x.seed(0), 3);
    }

    private static void count() {
        SlowPaths x = Due.told("C3&ab|0c&1a>0b2");
        int[] want = {15, 3, 3, 4, 7, 3, 0, 0, 10, 1, 12, -9};
        for (int what = 0; what <= 11; what++) due.is("count(" + what + ")", x.count(what), want[what]);
        x.write('a');
        x.slow(0, 5);
        x.slow(1, 2);
        x.see(0, 0, 0);
        due.is("count(0)", x.count(0), 16);
        due.is("count(5)", x.count(5), 8);
        due.is("count(6)", x.count(6), 2);
        due.is("count(7)", x.count(7), 1);
        for (int bad : new int[] {-1, 12, Integer.MIN_VALUE, Integer.MAX_VALUE}) due.is("count(" + bad + ")", x.count(bad), -2);
        SlowPaths four = Due.told("C4&ab>dcb0");
        int[] nexts = {3, 2, 1, 10};
        for (int i = 0; i < 4; i++) due.is("count(" + (8 + i) + ")", four.count(8 + i), nexts[i]);
        due.is("an input that leads nowhere", four.count(3), 2);
    }

    private static void countProven() {
        due.is("count(4) of ~", Due.told("C1~a>a").count(4), 2);
        due.is("count(4) of &", Due.told("C2&ab>ab").count(4), 4);
        due.is("count(4) of a & ~a", Due.told("C1~a&a0>a").count(4), 0);
        SlowPaths x = Due.told("C3&ab|0c&1a>012");
        x.turn(1, 0);
        due.is("count(4), turned", x.count(4), 6);
        x.undo();
        due.is("count(4), undone", x.count(4), 7);
    }
}
