/** Boundary cases of promises 7 to 9: slow, turn, undo. */
final class EdgesOfActs {
    private final Edges e;

    EdgesOfActs(Edges e) {
        this.e = e;
    }

    void all() {
        slow();
        turn();
        undo();
        undoRefused();
        row();
        rowOfMany();
    }

    private void slow() {
        e.about(7, "SLOWED: its DELAY as it was.");
        SlowPaths x = Due.told("C2&ab~0>01");
        for (int delay = 1; delay <= 9; delay++) {
            e.is("slow(1, " + delay + ")", x.slow(1, delay), delay == 1 ? 1 : delay - 1);
            e.is("gate(1, 3)", x.gate(1, 3), delay);
            e.is("gate(0, 3) stays", x.gate(0, 3), 1);
        }
        e.is("from the greatest to the least", x.slow(1, 1), 9);

        e.about(7, "SLOWED: a GATE has another DELAY (1 to 9).");
        x = Due.told("C2&ab~0>01");
        e.is("slow(0, 0)", x.slow(0, 0), Edges.OUTSIDE);
        e.is("slow(0, 10)", x.slow(0, 10), Edges.OUTSIDE);
        e.is("no act yet", x.count(6), 0);
        e.is("slow(0, 9)", x.slow(0, 9), 1);
        e.is("slow(0, 1)", x.slow(0, 1), 9);
        e.is("two acts", x.count(6), 2);
        e.is("slow(0, 1), as it is: not refused", x.slow(0, 1), 1);
        e.is("three acts", x.count(6), 3);

        e.about(7, "UNKNOWN; OUTSIDE: delay (1 to 9).");
        for (int delay : new int[] {0, 10, -1, Edges.LEAST, Edges.MOST})
            for (int g : new int[] {0, 3})
                e.refused("slow(" + g + ", " + delay + ")", o -> o.slow(g, delay), Edges.OUTSIDE, State.RICH, State.FULL);
        for (int g : new int[] {-1, 8, Edges.LEAST, Edges.MOST})
            for (int delay : new int[] {1, 9, 0})
                e.refused("slow(" + g + ", " + delay + ")", o -> o.slow(g, delay), Edges.UNKNOWN, State.values());
        e.refused("slow(4, 1) of four", o -> o.slow(4, 1), Edges.UNKNOWN, State.RICH);
        e.refused("slow(0, 1) of none", o -> o.slow(0, 1), Edges.UNKNOWN, State.FRESH);
        e.is("slow(3, 1) of four", State.RICH.make().slow(3, 1), 5);
        e.is("slow(7, 1) of eight", State.FULL.make().slow(7, 1), 2);
    }

    private void turn() {
        e.about(8, "TURNED: its KIND as it was.");
        SlowPaths x = Due.told("C2&ab~0>01");
        for (int from = 0; from <= 3; from++)
            for (int to = 0; to <= 3; to++) {
                if (x.gate(0, 0) != from) x.turn(0, from);
                e.is("turn(0, " + to + ") of " + from, x.turn(0, to), to == from ? Edges.STATE : from);
                e.is("gate(0, 0)", x.gate(0, 0), to);
            }

        e.about(8, "TURNED: a GATE of KIND 0 to 3 becomes another one of these.");
        x = Due.told("C2&ab|abnaboab~3>01");
        for (int g = 0; g <= 3; g++) {
            e.is("turn(" + g + ", 4)", x.turn(g, 4), Edges.OUTSIDE);
            e.is("turn(" + g + ", " + g + ")", x.turn(g, g), Edges.STATE);
            e.is("turn(" + g + ", " + (3 - g) + ")", x.turn(g, 3 - g), g);
        }
        for (int kind = 0; kind <= 3; kind++) e.is("turn(4, " + kind + ")", x.turn(4, kind), Edges.STATE);
        e.is("the ~ stays", x.gate(4, 0), 4);
        e.is("acts", x.count(6), 4);
        e.is("signals stay", x.gate(0, 1) * 100 + x.gate(0, 2), 1);

        e.about(8, "UNKNOWN; OUTSIDE: kind (0 to 3); STATE: it is ~, or is so.");
        for (int kind : new int[] {-1, 4, 5, Edges.LEAST, Edges.MOST})
            for (int g : new int[] {0, 3})
                e.refused("turn(" + g + ", " + kind + ")", o -> o.turn(g, kind), Edges.OUTSIDE, State.RICH, State.FULL);
        for (int kind = 0; kind <= 3; kind++) {
            int k = kind;
            e.refused("turn(3, " + k + "), ~", o -> o.turn(3, k), Edges.STATE, State.RICH);
        }
        e.refused("turn(0, 2), is so", o -> o.turn(0, 2), Edges.STATE, State.RICH);
        e.refused("turn(2, 0), is so as it was told", o -> o.turn(2, 0), Edges.STATE, State.RICH);
        e.refused("turn(7, 2), is so", o -> o.turn(7, 2), Edges.STATE, State.FULL);
        for (int g : new int[] {-1, 8, Edges.LEAST, Edges.MOST})
            for (int kind : new int[] {0, 4})
                e.refused("turn(" + g + ", " + kind + ")", o -> o.turn(g, kind), Edges.UNKNOWN, State.values());
        e.refused("turn(4, 0) of four", o -> o.turn(4, 0), Edges.UNKNOWN, State.RICH);
    }

    private void undo() {
        e.about(9, "The last ACT is undone: how many are left.");
        SlowPaths x = Due.told("C2&ab|0a>01");
        x.slow(0, 9);
        x.turn(1, 3);
        x.slow(1, 9);
        e.is("undo() of three", x.undo(), 2);
        e.is("delay of 1 as it was", x.gate(1, 3), 1);
        e.is("kind of 1 still turned", x.gate(1, 0), 3);
        e.is("undo() of two", x.undo(), 1);
        e.is("kind of 1 as it was", x.gate(1, 0), 1);
        e.is("delay of 0 still slowed", x.gate(0, 3), 9);
        e.is("undo() of one", x.undo(), 0);
        e.is("delay of 0 as it was", x.gate(0, 3), 1);
        x.turn(0, 1);
        e.is("an act behind that", x.count(6), 1);
        e.is("undo() of it", x.undo(), 0);
        e.is("kind of 0 as it was", x.gate(0, 0), 0);
        x.slow(0, 1);
        e.is("undo() of what was slowed as it is", x.undo(), 0);
        e.is("delay of 0", x.gate(0, 3), 1);
    }

    private void undoRefused() {
        e.about(9, "STATE: there is none.");
        e.refused("undo() of none", SlowPaths::undo, Edges.STATE, State.FRESH);
        SlowPaths x = Due.told("C2&ab~0>01");
        e.is("undo() behind circuit()", x.undo(), Edges.STATE);
        x.turn(1, 0);
        x.slow(0, 10);
        e.is("undo() behind what was refused", x.undo(), Edges.STATE);
        x.slow(0, 2);
        e.is("undo() of one", x.undo(), 0);
        e.is("undo() of none left", x.undo(), Edges.STATE);
        e.is("undo() of none left, again", x.undo(), Edges.STATE);
        e.is("the delay stays", x.gate(0, 3), 1);
    }

    private void row() {
        e.about(9, "ACTS (SLOWED, TURNED) are a row (14 at most; of more the first one is forgotten); the last one can be undone.");
        for (int many = 0; many <= 16; many++) {
            SlowPaths x = Due.told("C1~a~0~1>0");
            // the delay tells how many acts there have been: 1, 2, .. 9, and again of the next gate
            for (int i = 0; i < many; i++) x.slow(i / 8, 2 + i % 8);
            int kept = Math.min(many, 14);
            e.is(many + " acts: count(6)", x.count(6), kept);
            for (int left = kept - 1; left >= 0; left--) e.is(many + " acts: undo()", x.undo(), left);
            e.is(many + " acts: undo() of none", x.undo(), Edges.STATE);
            e.is(many + " acts: what is forgotten stays", x.count(5), 3 + many - kept);
        }
        SlowPaths x = Due.told("C2&ab~0>01");
        x.turn(0, 1);
        for (int i = 0; i < 14; i++) x.slow(1, 2 + i % 8);
        for (int i = 0; i < 15; i++) x.undo();
        e.is("a turn that is forgotten stays", x.gate(0, 0), 1);
        e.is("all behind it are undone", x.gate(1, 3), 1);
    }

    private void rowOfMany() {
        e.about(9, "An object is used for at most 512 calls after it has been made; what later calls answer is free.");
        SlowPaths x = Due.told("C1~a>0");
        // wipe, six letters and circuit were 8 calls; undo and gate are to be the last two of 512
        for (int i = 0; i < 512 - 8 - 2; i++) x.slow(0, 1 + i % 9);
        e.is("the call before the last: undo()", x.undo(), 13);
        e.is("the last call: gate(0, 3)", x.gate(0, 3), 1 + 500 % 9);
        x = Due.told("C1~a>0");
        for (int i = 0; i < 512 - 8 - 1; i++) x.drawn(20);
        e.is("the last call: drawn(21)", x.drawn(21), Edges.OUTSIDE);
    }
}
