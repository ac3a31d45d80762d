/** States that an object can be in, made anew by each call. */
enum State {
    FRESH {
        @Override
        SlowPaths make() {
            return new SlowPaths();
        }
    },

    /** Three inputs and four gates, the last one ~; acts, slot 1 kept, two seen; the text has a fault. */
    RICH {
        @Override
        SlowPaths make() {
            SlowPaths x = Due.told("C3&ab|0c&1a~2>01b");
            x.slow(1, 3);
            x.keep(1);
            x.turn(0, 2);
            x.slow(3, 5);
            x.see(3, 5, 1);
            x.see(200, 9, 0);
            x.seed(77);
            Due.type(x, "C2&aa");
            return x;
        }
    },

    /** As much of all as there can be: letters, gates, paths, acts, seen, slots. */
    FULL {
        @Override
        SlowPaths make() {
            SlowPaths x = Due.told(CircuitTest.DEEP);
            x.slow(7, 9);
            x.keep(0);
            for (int i = 0; i < 8; i++) {
                x.slow(i, 9 - i);
                x.turn(i, 1 + i % 3);
            }
            x.keep(1);
            for (int i = 0; i < 6; i++) x.see(35 + i, 4 * i, i % 2);
            x.seed(-1);
            Due.type(x, CircuitTest.DEEP + "x".repeat(40 - CircuitTest.DEEP.length()));
            return x;
        }
    };

    abstract SlowPaths make();
}
