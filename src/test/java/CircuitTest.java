/** Promises 1 to 6: a new object, write, wipe, fault, circuit, gate. */
public final class CircuitTest {
    private static final Due due = new Due("CircuitTest");
    static final String DEEP = "C2&ab&0a&10&21&32&43&54&65>07";

    public static void main(String[] args) {
        newObject();
        write();
        wipe();
        fault();
        circuit();
        circuitRefused();
        gate();
        due.end();
    }

    private static void newObject() {
        SlowPaths x = new SlowPaths();
        for (int what = 0; what <= 7; what++) due.is("new: count(" + what + ")", x.count(what), 0);
        for (int what = 8; what <= 11; what++) due.is("new: count(" + what + ")", x.count(what), -9);
        due.is("new: fault()", x.fault(), 0);
        due.is("new: circuit()", x.circuit(), -3);
        due.is("new: gate(0, 0)", x.gate(0, 0), -1);
        due.is("new: slower(0)", x.slower(0), 0);
        due.is("new: again(0)", x.again(0), -3);
        due.is("new: seed(1)", x.seed(1), 0);
    }

    private static void write() {
        SlowPaths x = new SlowPaths();
        for (int letter : new int[] {-1, 256, Integer.MIN_VALUE, Integer.MAX_VALUE})
            due.is("write(" + letter + ")", x.write(letter), -2);
        due.is("count(0)", x.count(0), 0);
        due.is("write(0)", x.write(0), 1);
        due.is("write(255)", x.write(255), 2);
        for (int i = 3; i <= 40; i++) due.is("write " + i, x.write('a'), i);
        due.is("write of 41", x.write('a'), -4);
        due.is("write(256), full", x.write(256), -2);
        due.is("count(0), full", x.count(0), 40);
    }

    private static void wipe() {
        SlowPaths x = Due.told("C1~a>0");
        due.is("count(0) behind circuit()", x.count(0), 6);
        due.is("wipe()", x.wipe(), 6);
        due.is("wipe() again", x.wipe(), 0);
        due.is("fault() behind wipe()", x.fault(), 0);
        due.is("circuit() behind wipe()", x.circuit(), -3);
        due.is("the circuit stays", x.count(2), 1);
        due.is("write behind wipe()", x.write('C'), 1);
    }

    private static void faultOf(String text, int want) {
        SlowPaths x = new SlowPaths();
        Due.type(x, text);
        due.is("fault() of " + text, x.fault(), want);
        due.is("circuit() of " + text, x.circuit() == -3 ? 1 : 0, want == -9 ? 0 : 1);
    }

    private static void fault() {
        String[] atEnd = {"", "C", "C1", "C4", "C1~", "C1~a", "C2&", "C2&a", "C2&ab", "C2|a", "C2na", "C2oa",
            "C1~a&", "C1~a&0", "C1~a&0a", "C1~a>", "C2&ab>", "C2&ab>0", "C4&ab>abc", DEEP.substring(0, 26)};
        for (String text : atEnd) faultOf(text, text.length());
        String[] whole = {"C1~a>0", "C1~a>a", "C2&ab>01".replace('1', 'b'), "C2|ba>aa", "C2nab>00", "C2oab>ab",
            "C4&cd>abcd", "C4~d>d0d0", "C1~a&a0|01~2>3", DEEP, "C1~a~0~1~2~3~4~5~6>7"};
        for (String text : whole) faultOf(text, -9);
        String[] atLast = {"c", "0", "C0", "C5", "Ca", "C1>", "C2>", "C2a", "C20", "C1&", "C1|", "C1n", "C1o", "C1x",
            "C1~b", "C1~0", "C1~~", "C1~>", "C3~d", "C2&aa", "C2&a0", "C2&ac", "C2&a>", "C2&0", "C1~a&00", "C1~a&a1",
            "C1~ab", "C2&ab0", "C2&abC", "C1~a>1", "C1~a>b", "C1~a>>", "C1~a>&", "C1~a>00", "C2&ab>0a0", "C4&ab>abcda",
            "C1~a~0~1~2~3~4~5~6~", "C1~a~0~1~2~3~4~5~6&", "C1~a~8", DEEP + ">", "\u0000", "C\u00b1", "C1\u00fe"};
        for (String text : atLast) faultOf(text, text.length() - 1);
        faultOf("C2&aa&bb>01", 4);
        faultOf("C1~a>0" + "a".repeat(34), 6);
        faultOf("x".repeat(40), 0);
        SlowPaths x = new SlowPaths();
        Due.type(x, "C1~b");
        due.is("fault()", x.fault(), 3);
        due.is("fault() again", x.fault(), 3);
        due.is("fault() changes nothing", x.count(0), 4);
    }

    private static void circuit() {
        SlowPaths x = new SlowPaths();
        Due.type(x, DEEP);
        due.is("circuit() of 55", x.circuit(), 55);
        due.is("inputs", x.count(1), 2);
        due.is("gates", x.count(2), 8);
        due.is("paths", x.count(3), 55);
        due.is("next of a", x.count(8), 10);
        due.is("next of b", x.count(9), 17);
        due.is("slow(3, 7)", x.slow(3, 7), 1);
        due.is("turn(3, 1)", x.turn(3, 1), 0);
        x.see(1, 2, 1);
        x.seed(77);
        x.keep(0);
        x.keep(1);
        due.is("circuit() once more", x.circuit(), 55);
        due.is("the text stays", x.count(0), DEEP.length());
        due.is("delays are 1", x.count(5), 8);
        due.is("kind as told", x.gate(3, 0), 0);
        due.is("the row is empty", x.count(6), 0);
        due.is("undo()", x.undo(), -3);
        due.is("seen stays", x.count(7), 1);
        due.is("the seed stays", x.seed(0), 77);
        due.is("nothing is kept in 0", x.again(0), -3);
        due.is("nothing is kept in 1", x.again(1), -3);
        Due.type(x, "C1~a>a");
        due.is("circuit() of one", x.circuit(), 1);
        due.is("gates of one", x.count(2), 1);
        due.is("no more gate 1", x.gate(1, 0), -1);
        due.is("no more next of b", x.count(9), -9);
        Due.type(x, "C2~a>ab");
        due.is("an input without paths", x.circuit(), 1);
        Due.type(x, "C1~a~a>a");
        due.is("a gate without paths", x.circuit(), 1);
    }

    private static void circuitRefused() {
        SlowPaths x = Due.told("C2&ab~0>01");
        x.slow(0, 4);
        x.turn(0, 2);
        x.keep(1);
        Due.type(x, "C3&ab~0>01");
        due.is("circuit() with a fault", x.circuit(), -3);
        due.is("inputs stay", x.count(1), 2);
        due.is("kinds stay", x.gate(0, 0), 2);
        due.is("delays stay", x.gate(0, 3), 4);
        due.is("paths stay", x.count(3), 2);
        due.is("acts stay", x.count(6), 2);
        due.is("a path stays", x.path(1, 0), 1);
        due.is("what was kept stays", x.again(1), 2);
    }

    private static void gate() {
        SlowPaths x = Due.told("C4&ba|d0nc1o01~3>0123");
        int[][] want = {{0, 1, 0, 1}, {1, 3, 10, 1}, {2, 2, 11, 1}, {3, 10, 11, 1}, {4, 13, -9, 1}};
        for (int g = 0; g < want.length; g++)
            for (int what = 0; what < 4; what++)
                due.is("gate(" + g + ", " + what + ")", x.gate(g, what), want[g][what]);
        x.slow(4, 9);
        x.turn(0, 3);
        due.is("gate(4, 3)", x.gate(4, 3), 9);
        due.is("gate(0, 0)", x.gate(0, 0), 3);
        due.is("gate(0, 4)", x.gate(0, 4), -2);
        due.is("gate(0, -1)", x.gate(0, -1), -2);
        for (int g : new int[] {-1, 5, 8, Integer.MIN_VALUE, Integer.MAX_VALUE}) {
            due.is("gate(" + g + ", 0)", x.gate(g, 0), -1);
            due.is("gate(" + g + ", 9)", x.gate(g, 9), -1);
        }
    }
}
