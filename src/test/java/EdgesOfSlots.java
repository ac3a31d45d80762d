/** Boundary cases of promises 27 to 29: keep, again, count. */
final class EdgesOfSlots {
    private final Edges e;

    EdgesOfSlots(Edges e) {
        this.e = e;
    }

    void all() {
        keep();
        keepRefused();
        again();
        againRefused();
        slots();
        count();
        countNexts();
        countRefused();
    }

    private void keep() {
        e.about(27, "They are kept: how many GATES.");
        e.is("keep(0) of none", new SlowPaths().keep(0), 0);
        e.is("keep(1) of none", new SlowPaths().keep(1), 0);
        e.is("keep(0) of one", Due.told("C1~a>a").keep(0), 1);
        e.is("keep(1) of eight", Due.told(CircuitTest.DEEP).keep(1), 8);
        SlowPaths x = Due.told("C2&ab>ab");
        x.slow(0, 9);
        x.keep(0);
        e.is("acts stay", x.count(6), 1);
        x.slow(0, 5);
        e.is("keep(0) once more", x.keep(0), 1);
        x.slow(0, 2);
        x.again(0);
        e.is("what was kept last", x.gate(0, 3), 5);
    }

    private void keepRefused() {
        e.about(27, "UNKNOWN.");
        for (int slot : new int[] {-1, 2, Edges.LEAST, Edges.MOST})
            e.refused("keep(" + slot + ")", o -> o.keep(slot), Edges.UNKNOWN, State.values());
    }

    private void again() {
        e.about(28, "They are as they were kept: how many GATES.");
        SlowPaths x = new SlowPaths();
        x.keep(1);
        e.is("again(1) of no gates", x.again(1), 0);
        x = Due.told(CircuitTest.DEEP);
        for (int g = 0; g < 8; g++) {
            x.slow(g, 9);
            x.turn(g, 3);
        }
        x.keep(0);
        for (int g = 0; g < 8; g++) {
            x.slow(g, 1);
            x.turn(g, 0);
        }
        e.is("again(0) of eight", x.again(0), 8);
        for (int g = 0; g < 8; g++) e.is("gate " + g, x.gate(g, 0) * 10 + x.gate(g, 3), 39);
        e.is("again(0) a second time", x.again(0), 8);
        e.is("delays of all", x.count(5), 72);
    }

    private void againRefused() {
        e.about(28, "UNKNOWN; STATE: none were kept.");
        for (int slot : new int[] {-1, 2, Edges.LEAST, Edges.MOST})
            e.refused("again(" + slot + ")", o -> o.again(slot), Edges.UNKNOWN, State.values());
        e.refused("again(0) of none", o -> o.again(0), Edges.STATE, State.FRESH, State.RICH);
        e.refused("again(1) of none", o -> o.again(1), Edges.STATE, State.FRESH);
        SlowPaths x = Due.told("C1~a>a");
        x.keep(0);
        x.circuit();
        e.is("again(0), gone by circuit()", x.again(0), Edges.STATE);
        x.keep(2);
        e.is("again(0) behind keep(2)", x.again(0), Edges.STATE);
        x.keep(1);
        e.is("again(0) while 1 is kept", x.again(0), Edges.STATE);
        e.is("again(1)", x.again(1), 1);
        Due.type(x, "C1~a>");
        x.circuit();
        e.is("again(1) behind a circuit() that was refused", x.again(1), 1);
    }

    private void slots() {
        e.about(28, "SLOTS 0 to 1 keep KINDS, DELAYS (THE ROW of ACTS is empty when one goes on).");
        SlowPaths x = Due.told("C2&ab>ab");
        x.keep(0);
        x.slow(0, 9);
        x.turn(0, 3);
        x.keep(1);
        for (int round = 0; round < 2; round++) {
            x.slow(0, 4);
            x.again(0);
            e.is("slot 0", x.gate(0, 0) * 10 + x.gate(0, 3), 1);
            e.is("the row is empty", x.count(6), 0);
            e.is("nothing to undo", x.undo(), Edges.STATE);
            x.slow(0, 4);
            x.again(1);
            e.is("slot 1", x.gate(0, 0) * 10 + x.gate(0, 3), 39);
            e.is("the row is empty", x.count(6), 0);
        }
        x.see(1, 1, 1);
        x.write('x');
        x.seed(4);
        x.again(0);
        e.is("what is seen stays", x.count(7), 1);
        e.is("the text stays", x.count(0), 9);
        e.is("the seed stays", x.seed(0), 4);
        x.slow(0, 2);
        e.is("an act behind again()", x.undo(), 0);
    }

    private void count() {
        e.about(29, "0 letters of THE TEXT, 1 INPUTS, 2 GATES, 3 PATHS, 4 PATHS that can be TESTED SURELY (each that RISES,"
                + " or FALLS, for itself), 5 DELAYS of all together, 6 ACTS in the row, 7 SEEN,");
        SlowPaths x = new SlowPaths();
        for (int what = 0; what <= 7; what++) e.is("count(" + what + ") of none", x.count(what), 0);
        x = Due.told("C1~a>a");
        int[] least = {6, 1, 1, 1, 2, 1, 0, 0};
        for (int what = 0; what <= 7; what++) e.is("count(" + what + ") of one", x.count(what), least[what]);
        x = Due.told(CircuitTest.DEEP);
        for (int g = 0; g < 8; g++) x.slow(g, 9);
        for (int g = 0; g < 8; g++) x.slow(g, 9);
        for (int i = 0; i < 7; i++) x.see(0, 0, 0);
        for (int i = 0; i < 40; i++) x.write('x');
        int[] most = {40, 2, 8, 55};
        for (int what = 0; what <= 3; what++) e.is("count(" + what + ") of most", x.count(what), most[what]);
        e.is("count(5) of most", x.count(5), 72);
        e.is("count(6) of most", x.count(6), 14);
        e.is("count(7) of most", x.count(7), 6);
        e.is("count(1) of four", Due.told("C4~a>abcd").count(1), 4);
        e.is("count(4): rising and falling are two", Due.told("C2&ab>ab").count(4), 4);
        e.is("count(4): none can be", Due.told("C1~a&a0>a").count(4), 0);
        e.is("count(4): one can not be", Due.told("C3&ab|0c&1a>012").count(4), 7);
        x = Due.told("C1~a~a>a");
        x.slow(0, 9);
        e.is("count(5): delays of gates on no path too", x.count(5), 10);
    }

    private void countNexts() {
        e.about(29, "8 to 11 NEXT of a, b, c, d (an INPUT 0 to 3, a GATE 10 and its number; NONE: there is no such INPUT).");
        for (int n = 1; n <= 4; n++) {
            String last = "abcd".substring(n - 1, n);
            SlowPaths x = Due.told("C" + n + "~a~0~1~2~3~4~5~6>" + (last + "70a").substring(0, n));
            int[] want = {n - 1, 17, 10, 0};
            for (int i = 0; i < 4; i++) e.is(n + " inputs: count(" + (8 + i) + ")", x.count(8 + i), i < n ? want[i] : Edges.NONE);
        }
        for (int what = 8; what <= 11; what++) e.is("count(" + what + ") of none", new SlowPaths().count(what), Edges.NONE);
    }

    private void countRefused() {
        e.about(29, "OUTSIDE.");
        for (int what : new int[] {-1, 12, Edges.LEAST, Edges.MOST})
            e.refused("count(" + what + ")", o -> o.count(what), Edges.OUTSIDE, State.values());
    }
}
