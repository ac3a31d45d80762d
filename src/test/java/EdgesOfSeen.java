/** Boundary cases of promises 20 to 22: see, unsee, slower. */
final class EdgesOfSeen {
    private final Edges e;

    EdgesOfSeen(Edges e) {
        this.e = e;
    }

    void all() {
        see();
        seeRefused();
        unsee();
        slower();
        slowerByAll();
        bitsThatAreNot();
        slowerRefused();
    }

    private void see() {
        e.about(20, "SEEN: how many there are.");
        SlowPaths x = new SlowPaths();
        for (int i = 1; i <= 6; i++) e.is("see() " + i, x.see(0, 0, 0), i);
        x = Due.told("C1~a>a");
        e.is("see(0, 0, 0)", x.see(0, 0, 0), 1);
        e.is("see(255, 99, 1), bits that there are not too", x.see(255, 99, 1), 2);
        e.is("the same once more", x.see(255, 99, 1), 3);

        e.about(20, "SEEN: that by a PAIR and t it was LATE (1), or was not (0), when one GATE had a DELAY that was more"
                + " by 1 to 9: 6 such at most, none at first.");
        x = new SlowPaths();
        e.is("none at first", x.count(7), 0);
        for (int i = 0; i < 6; i++) x.see(i, i, i % 2);
        e.is("six", x.count(7), 6);
        e.is("a seventh", x.see(6, 6, 0), Edges.FULL);
        e.is("still six", x.count(7), 6);
        x.unsee();
        e.is("one behind unsee()", x.see(6, 6, 0), 1);
    }

    private void seeRefused() {
        e.about(20, "OUTSIDE: pair (0 to 255), t (0 to 99), late (0, 1); FULL: 6.");
        for (int pair : new int[] {-1, 256, Edges.LEAST, Edges.MOST})
            e.refused("see(" + pair + ", 0, 0)", o -> o.see(pair, 0, 0), Edges.OUTSIDE, State.values());
        for (int t : new int[] {-1, 100, Edges.LEAST, Edges.MOST})
            e.refused("see(0, " + t + ", 0)", o -> o.see(0, t, 0), Edges.OUTSIDE, State.values());
        for (int late : new int[] {-1, 2, Edges.LEAST, Edges.MOST})
            e.refused("see(0, 0, " + late + ")", o -> o.see(0, 0, late), Edges.OUTSIDE, State.values());
        e.refused("see(0, 0, 0) of six", o -> o.see(0, 0, 0), Edges.FULL, State.FULL);
        e.refused("see(255, 99, 1) of six", o -> o.see(255, 99, 1), Edges.FULL, State.FULL);
        for (int pair = 0; pair <= 255; pair++) e.is("see(" + pair + ", 99, 1)", new SlowPaths().see(pair, 99, 1), 1);
        e.is("see(0, 99, 0)", new SlowPaths().see(0, 99, 0), 1);
    }

    private void unsee() {
        e.about(21, "Nothing is SEEN: how much there was.");
        SlowPaths x = Due.told("C1~a>a");
        for (int many = 0; many <= 6; many++) {
            for (int i = 0; i < many; i++) x.see(1, 9, 1);
            e.is("unsee() of " + many, x.unsee(), many);
            e.is("count(7)", x.count(7), 0);
            e.is("slower(0)", x.slower(0), 9);
        }
        e.is("unsee() of none", x.unsee(), 0);
    }

    /** By one gate of the delay 1 it is late at t if the gate is slower by t or more. */
    private void slower() {
        e.about(22, "SLOWER: GATES and by how much (1 to 9) by which all that is SEEN is so: how many;"
                + " the first (10 times the GATE and by how much); NONE.");
        for (int t = 0; t <= 12; t++) {
            SlowPaths x = Due.told("C1~a>a");
            x.see(1, t, 1);
            e.is("late at " + t + ": how many", x.slower(0), Math.max(0, Math.min(9, 10 - t)));
            e.is("late at " + t + ": the first", x.slower(1), t > 9 ? Edges.NONE : Math.max(1, t));
            x.unsee();
            x.see(1, t, 0);
            e.is("not late at " + t + ": how many", x.slower(0), Math.max(0, Math.min(9, t - 1)));
            e.is("not late at " + t + ": the first", x.slower(1), t >= 2 ? 1 : Edges.NONE);
        }
        SlowPaths x = Due.told("C1~a>a");
        x.slow(0, 9);
        x.see(1, 17, 1);
        e.is("slowed to 9 and slower by 9: how many", x.slower(0), 1);
        e.is("slowed to 9 and slower by 9: the first", x.slower(1), 9);
        x.see(1, 18, 1);
        e.is("more than that: how many", x.slower(0), 0);
        e.is("more than that: the first", x.slower(1), Edges.NONE);
        x = Due.told("C1~a~a~a~a~a~a~a~a>a");
        x.see(1, 9, 1);
        e.is("the last gate of eight: how many", x.slower(0), 1);
        e.is("the last gate of eight: the first", x.slower(1), 79);
        x.unsee();
        x.see(1, 1, 0);
        e.is("any gate but the last of eight: how many", x.slower(0), 63);
        e.is("any gate but the last of eight: the first", x.slower(1), 1);
    }

    private void slowerByAll() {
        e.about(22, "how many (what = 0), the first (1); NONE.");
        SlowPaths none = new SlowPaths();
        e.is("slower(0) of no gate", none.slower(0), 0);
        e.is("slower(1) of no gate", none.slower(1), Edges.NONE);
        SlowPaths x = Due.told("C1~a~0~1~2~3~4~5~6>a");
        e.is("nothing seen: how many", x.slower(0), 72);
        e.is("nothing seen: the first", x.slower(1), 1);
        x.see(1, 16, 1);
        e.is("late at 16: each by 9", x.slower(0), 8);
        e.is("late at 16: the first", x.slower(1), 9);
        for (int g = 0; g < 8; g++) x.slow(g, 9);
        x.unsee();
        x.see(1, 80, 1);
        e.is("72 and 9, late at 80: how many", x.slower(0), 8);
        x.see(1, 81, 0);
        e.is("72 and 9, not late at 81: how many", x.slower(0), 8);
        for (int i = 0; i < 3; i++) x.see(17, i, 0);
        e.is("what nothing goes over for is never late", x.slower(0), 8);
        x.see(17, 0, 1);
        e.is("a sixth that can not be: how many", x.slower(0), 0);
        e.is("a sixth that can not be: the first", x.slower(1), Edges.NONE);
        e.is("delays stay", x.count(5), 72);
    }

    private void bitsThatAreNot() {
        e.about(22, "SLOWER (bits of a PAIR of INPUTS that there are not do not matter):");
        SlowPaths x = Due.told("C1~a>a");
        for (int pair = 0; pair <= 255; pair++) {
            if (pair % 128 == 0) x = Due.told("C1~a>a");
            x.see(pair, 4, 1);
            int want = (pair >> 4 & 1) != (pair & 1) ? 6 : 0;
            e.is("by " + pair + " late at 4", x.slower(0), want);
            x.unsee();
        }
        x = Due.told("C4~d>abcd");
        x.see(8, 4, 1);
        e.is("d rises while there is d", x.slower(1), 4);
        Due.type(x, "C3~a>abc");
        x.circuit();
        e.is("and when there is no d, nothing goes over", x.slower(1), Edges.NONE);
        e.is("it is still seen", x.count(7), 1);
    }

    private void slowerRefused() {
        e.about(22, "OUTSIDE.");
        for (int what : new int[] {-1, 2, Edges.LEAST, Edges.MOST})
            e.refused("slower(" + what + ")", o -> o.slower(what), Edges.OUTSIDE, State.values());
    }
}
