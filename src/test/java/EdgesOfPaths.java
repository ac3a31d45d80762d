/** Boundary cases of promises 10 and 11: path, longest. */
final class EdgesOfPaths {
    private final Edges e;

    EdgesOfPaths(Edges e) {
        this.e = e;
    }

    void all() {
        paths();
        numbers();
        path();
        pathRefused();
        longest();
        longestRefused();
    }

    /** An input's letter and the figures of gates. */
    private String told(SlowPaths x, int p) {
        StringBuilder s = new StringBuilder();
        s.append((char) ('a' + x.path(p, 0)));
        for (int i = 0; i < x.path(p, 1); i++) s.append(x.path(p, 3 + i));
        return s.toString();
    }

    private void are(String text, String... want) {
        SlowPaths x = Due.told(text);
        e.is(text + ": how many paths", x.count(3), want.length);
        for (int p = 0; p < want.length; p++)
            e.is(text + ": path " + p + " is " + told(x, p) + ", due is " + want[p], told(x, p).equals(want[p]) ? 1 : 0, 1);
    }

    private void paths() {
        e.about(10, "PATHS: an INPUT, then GATES each of which has the one ahead of it as a SIGNAL, the last one THE OUTPUT.");
        are("C1~a>a", "a0");
        are("C1~a~0~1~2~3~4~5~6>a", "a01234567");
        are("C1~a~a>a", "a1");
        are("C2~a~b>ab", "b1");
        are("C4~a~b~c~d>abcd", "d3");
        are("C4&ab&cd&01>abcd", "a02", "b02", "c12", "d12");

        e.about(10, "The last GATE is THE OUTPUT.");
        are("C2&ab~a>ab", "a1");
        SlowPaths x = Due.told("C2&ab~a>ab");
        x.slow(0, 9);
        x.slow(1, 2);
        e.is("late by the last gate alone", x.late(1, 1) * 10 + x.late(1, 2), 10);
        e.is("longest(0) by the last gate alone", x.longest(0), 2);
        e.is("share of a gate ahead of none", x.share(0, true), 0);
    }

    private void numbers() {
        e.about(10, "They are numbered: by INPUTS, then by GATES, the first in which they are unlike, the lesser first"
                + " (one that is at its end ahead of none: all end at THE OUTPUT).");
        are("C2&ab|0b>ab", "a01", "b01", "b1");
        are("C2~b&0a>ab", "a1", "b01");
        are("C1~a&0a|01>a", "a012", "a02", "a12");
        are("C1~a~a~0|12>a", "a023", "a13");
        are("C3&ab|0c&1a>012", "a012", "a2", "b012", "c12");
        SlowPaths x = Due.told(CircuitTest.DEEP);
        for (int p = 1; p < 55; p++)
            e.is("path " + (p - 1) + " is ahead of path " + p, told(x, p - 1).compareTo(told(x, p)) < 0 ? 1 : 0, 1);
        e.is("LENGTH of the last one", x.path(54, 2), 5);
    }

    private void path() {
        e.about(10, "Of a PATH its INPUT (what = 0), how many GATES (1), LENGTH (2), its i-th GATE (3 and i, from 0;"
                + " NONE: there is none such).");
        SlowPaths x = Due.told("C1~a~0~1~2~3~4~5~6>a");
        e.is("path(0, 0)", x.path(0, 0), 0);
        e.is("path(0, 1)", x.path(0, 1), 8);
        e.is("path(0, 2)", x.path(0, 2), 8);
        for (int i = 0; i < 8; i++) e.is("path(0, " + (3 + i) + ")", x.path(0, 3 + i), i);
        for (int what : new int[] {11, 12, 100, Edges.MOST}) e.is("path(0, " + what + ")", x.path(0, what), Edges.NONE);
        x = Due.told("C4~d>abcd");
        e.is("path(0, 0) of d", x.path(0, 0), 3);
        e.is("path(0, 1) of one gate", x.path(0, 1), 1);
        e.is("path(0, 3) of one gate", x.path(0, 3), 0);
        e.is("path(0, 4) of one gate", x.path(0, 4), Edges.NONE);

        e.about(10, "LENGTH of a PATH: DELAYS of its GATES together.");
        x = Due.told("C1~a~0~1~2~3~4~5~6>a");
        for (int g = 0; g < 8; g++) {
            e.is("length", x.path(0, 2), 8 + 8 * g);
            x.slow(g, 9);
        }
        e.is("the greatest length there can be", x.path(0, 2), 72);
        e.is("the least length there can be", Due.told("C1~a>a").path(0, 2), 1);
    }

    private void pathRefused() {
        e.about(10, "UNKNOWN; OUTSIDE: what less than 0.");
        for (int p : new int[] {-1, 55, 64, Edges.LEAST, Edges.MOST})
            for (int what : new int[] {0, 3, -1})
                e.refused("path(" + p + ", " + what + ")", o -> o.path(p, what), Edges.UNKNOWN, State.values());
        e.refused("path(4, 0) of four", o -> o.path(4, 0), Edges.UNKNOWN, State.RICH);
        e.refused("path(0, 0) of none", o -> o.path(0, 0), Edges.UNKNOWN, State.FRESH);
        for (int what : new int[] {-1, -2, Edges.LEAST})
            e.refused("path(0, " + what + ")", o -> o.path(0, what), Edges.OUTSIDE, State.RICH, State.FULL);
        e.is("path(3, 0) of four", State.RICH.make().path(3, 0), 2);
        e.is("path(54, 0) of 55", State.FULL.make().path(54, 0), 1);
    }

    private void longest() {
        e.about(11, "The greatest LENGTH (what = 0), the first PATH that has it (1); NONE: there is no PATH.");
        SlowPaths none = new SlowPaths();
        e.is("longest(0) of none", none.longest(0), Edges.NONE);
        e.is("longest(1) of none", none.longest(1), Edges.NONE);
        SlowPaths x = Due.told("C3~a~b~c|01|32>abc");
        e.is("longest(0) of a033, b133, c2", x.longest(0), 3);
        e.is("longest(1), the first of two", x.longest(1), 0);
        x.slow(2, 2);
        e.is("longest(1), the first of three", x.longest(1), 0);
        x.slow(2, 3);
        e.is("longest(1), one more", x.longest(1), 2);
        e.is("longest(0), one more", x.longest(0), 4);
        x.slow(1, 2);
        e.is("longest(1), the first of two again", x.longest(1), 1);
        SlowPaths most = Due.told("C1~a~0~1~2~3~4~5~6>a");
        for (int g = 0; g < 8; g++) most.slow(g, 9);
        e.is("longest(0), the greatest there can be", most.longest(0), 72);
        e.is("longest(0), the least there can be", Due.told("C1~a>a").longest(0), 1);
    }

    private void longestRefused() {
        e.about(11, "OUTSIDE.");
        for (int what : new int[] {-1, 2, Edges.LEAST, Edges.MOST})
            e.refused("longest(" + what + ")", o -> o.longest(what), Edges.OUTSIDE, State.values());
    }
}
