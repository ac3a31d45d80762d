/** Boundary cases of what the Terms say of many calls: which refusal is the first, and what changes nothing. */
final class EdgesOfTerms {
    private static final String FIRST = "REFUSALS, of several the first that a call names: UNKNOWN (there is no such GATE,"
            + " PATH, SLOT), OUTSIDE (another number is not as told), STATE (as told), FULL.";
    private static final String NOTHING = "What is refused changes nothing.";
    private static final String TELLS = "In what follows nothing is changed.";
    private final Edges e;

    EdgesOfTerms(Edges e) {
        this.e = e;
    }

    void all() {
        constants();
        unknownFirst();
        outsideFirst();
        refusedAmidOthers();
        nothingIsChanged();
        kinds();
    }

    private void constants() {
        e.about(1, FIRST);
        e.is("UNKNOWN", SlowPaths.UNKNOWN, -1);
        e.is("OUTSIDE", SlowPaths.OUTSIDE, -2);
        e.is("STATE", SlowPaths.STATE, -3);
        e.is("FULL", SlowPaths.FULL, -4);
    }

    private void unknownFirst() {
        for (int bad : new int[] {-1, 99}) {
            e.about(6, FIRST);
            e.refused("gate(" + bad + ", 4)", o -> o.gate(bad, 4), Edges.UNKNOWN, State.values());
            e.about(7, FIRST);
            e.refused("slow(" + bad + ", 10)", o -> o.slow(bad, 10), Edges.UNKNOWN, State.values());
            e.about(8, FIRST);
            e.refused("turn(" + bad + ", 4)", o -> o.turn(bad, 4), Edges.UNKNOWN, State.values());
            e.about(10, FIRST);
            e.refused("path(" + bad + ", -1)", o -> o.path(bad, -1), Edges.UNKNOWN, State.values());
            e.about(12, FIRST);
            e.refused("value(" + bad + ", 256)", o -> o.value(bad, 256), Edges.UNKNOWN, State.values());
            e.about(13, FIRST);
            e.refused("tests(" + bad + ", 256)", o -> o.tests(bad, 256), Edges.UNKNOWN, State.values());
            e.about(14, FIRST);
            e.refused("best(" + bad + ", 2, 3, 2)", o -> o.best(bad, 2, 3, 2), Edges.UNKNOWN, State.values());
            e.about(17, FIRST);
            e.refused("wave(" + bad + ", 256, 100)", o -> o.wave(bad, 256, 100), Edges.UNKNOWN, State.values());
            e.about(28, FIRST);
            e.refused("again(" + bad + ")", o -> o.again(bad), Edges.UNKNOWN, State.values());
        }
    }

    private void outsideFirst() {
        e.about(2, FIRST);
        e.refused("write(256) of 40 letters", o -> o.write(256), Edges.OUTSIDE, State.FULL);
        e.about(8, FIRST);
        e.refused("turn(3, 4) of ~", o -> o.turn(3, 4), Edges.OUTSIDE, State.RICH);
        e.refused("turn(3, -1) of ~", o -> o.turn(3, -1), Edges.OUTSIDE, State.RICH);
        e.about(18, FIRST);
        e.refused("late(0, 100) of no gate", o -> o.late(0, 100), Edges.OUTSIDE, State.FRESH);
        e.refused("late(1, 0) of no gate", o -> o.late(1, 0), Edges.OUTSIDE, State.FRESH);
        e.about(20, FIRST);
        e.refused("see(256, 0, 0) of six", o -> o.see(256, 0, 0), Edges.OUTSIDE, State.FULL);
        e.refused("see(0, 100, 0) of six", o -> o.see(0, 100, 0), Edges.OUTSIDE, State.FULL);
        e.refused("see(0, 0, 2) of six", o -> o.see(0, 0, 2), Edges.OUTSIDE, State.FULL);
        e.about(24, FIRST);
        e.refused("slows(0, 0, 11) of no gate", o -> o.slows(0, 0, 11, true), Edges.OUTSIDE, State.FRESH);
        e.refused("slows(0, 100, 0) of no gate", o -> o.slows(0, 100, 0, false), Edges.OUTSIDE, State.FRESH);
        e.refused("slows(1, 0, 0) of no gate", o -> o.slows(1, 0, 0, true), Edges.OUTSIDE, State.FRESH);
    }

    /** Every refusal there is, one behind the other, on one object. */
    private static long allRefused(SlowPaths x) {
        long none = x.write(-1) + x.write(256) + x.gate(-1, 0) + x.gate(8, 0) + x.slow(8, 1) + x.turn(8, 0) + x.path(55, 0)
                + x.longest(2) + x.value(8, 0) + x.tests(55, 0) + x.best(55, 0, 0, 0) + x.packed(3, 0) + x.packed(0, -2)
                + x.wave(8, 0, 0) + x.late(256, 0) + x.judge(0, 0) + x.judge(1, -1) + x.see(256, 0, 0) + x.slower(2)
                + x.share(8, true) + x.slows(256, 0, 0, true) + x.drawn(0) + x.drawn(21) + x.keep(2) + x.again(2) + x.count(12);
        if (x.count(2) > 0)
            none += x.gate(0, 4) + x.slow(0, 0) + x.slow(0, 10) + x.turn(0, -1) + x.turn(0, x.gate(0, 0)) + x.path(0, -1)
                    + x.value(0, -1) + x.tests(0, 256) + x.best(0, 2, 0, 0) + x.wave(0, 0, 100);
        if (x.count(2) == 0) none += x.late(0, 0) + x.slows(0, 0, 0, false) + x.undo();
        if (x.count(0) == 40) none += x.write('C');
        if (x.count(7) == 6) none += x.see(0, 0, 0);
        return none + x.circuit();
    }

    private void refusedAmidOthers() {
        e.about(2, NOTHING);
        for (State state : State.values()) {
            SlowPaths x = state.make();
            e.is(state + ": all were refused", allRefused(x) < 0 ? 1 : 0, 1);
            e.alike(state + ": behind all refusals", x, state.make());
        }
        e.about(9, NOTHING);
        SlowPaths x = Due.told("C2&ab~0>01");
        x.slow(0, 5);
        x.turn(1, 0);
        x.turn(0, 0);
        x.slow(0, 10);
        x.slow(2, 1);
        e.is("only what was done is undone", x.undo(), 0);
        e.is("the delay", x.gate(0, 3), 1);
        e.about(28, NOTHING);
        x.keep(0);
        x.slow(0, 5);
        x.again(1);
        x.again(2);
        e.is("acts stay", x.count(6), 1);
        e.is("delays stay", x.gate(0, 3), 5);
    }

    private void nothingIsChanged() {
        e.about(6, TELLS);
        e.unchanged("gate(0, 3)", o -> o.gate(0, 3), State.values());
        e.about(10, TELLS);
        e.unchanged("path(0, 2)", o -> o.path(0, 2), State.values());
        e.about(11, TELLS);
        e.unchanged("longest(1)", o -> o.longest(1), State.values());
        e.about(12, TELLS);
        e.unchanged("value(0, 3)", o -> o.value(0, 3), State.values());
        e.about(13, TELLS);
        e.unchanged("tests(0, 3)", o -> o.tests(0, 3), State.values());
        e.about(14, TELLS);
        e.unchanged("best(0, 1, 2, 0)", o -> o.best(0, 1, 2, 0), State.values());
        e.about(15, TELLS);
        e.unchanged("pruned()", o -> o.pruned(), State.values());
        e.about(16, TELLS);
        e.unchanged("packed(0, 1)", o -> o.packed(0, 1), State.values());
        e.about(17, TELLS);
        e.unchanged("wave(0, 3, 3)", o -> o.wave(0, 3, 3), State.values());
        e.about(18, TELLS);
        e.unchanged("late(3, 3)", o -> o.late(3, 3), State.values());
        e.about(19, TELLS);
        e.unchanged("judge(4, ..)", o -> o.judge(4, 1009_2003_1105_5001L), State.values());
        e.about(22, TELLS);
        e.unchanged("slower(0)", o -> o.slower(0), State.values());
        e.about(23, TELLS);
        e.unchanged("share(0, true)", o -> o.share(0, true), State.values());
        e.about(24, TELLS);
        e.unchanged("slows(3, 3, 5, true)", o -> o.slows(3, 3, 5, true), State.values());
        e.about(29, TELLS);
        e.unchanged("count(4)", o -> o.count(4), State.values());
    }

    private void kinds() {
        e.about(6, "A GATE: a sign: & (KIND 0: 1 if both are), | (1: 1 if any is), n (2: not &), o (3: not |), ~ (4: not),");
        SlowPaths x = Due.told("C2&ab|abnaboab~a>01");
        int[] made = {0b1000, 0b1110, 0b0111, 0b0001, 0b0101};
        for (int g = 0; g < 5; g++) {
            e.is("gate(" + g + ", 0)", x.gate(g, 0), g);
            for (int pattern = 0; pattern < 4; pattern++)
                e.is("gate " + g + " by " + pattern, x.value(g, 17 * pattern), made[g] >> pattern & 1);
        }
    }
}
