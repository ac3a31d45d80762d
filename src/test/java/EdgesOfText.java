/** Boundary cases of promises 1 to 6: a new object, write, wipe, fault, circuit, gate. */
final class EdgesOfText {
    private static final String LONGEST = "C4&ab|bcncdo0a&1b|2cn3do56>0c7a";
    private final Edges e;

    EdgesOfText(Edges e) {
        this.e = e;
    }

    void all() {
        newObject();
        write();
        wipe();
        faultOfInputs();
        faultOfGates();
        faultOfSignals();
        faultOfNexts();
        faultInGeneral();
        circuit();
        circuitForgets();
        gate();
    }

    private void newObject() {
        e.about(1, "No gates.");
        SlowPaths x = new SlowPaths();
        e.is("count(2)", x.count(2), 0);
        e.is("count(5)", x.count(5), 0);
        for (int g = 0; g < 8; g++) e.is("gate(" + g + ", 0)", x.gate(g, 0), Edges.UNKNOWN);

        e.about(1, "At first there is no INPUT, no GATE.");
        x = new SlowPaths();
        for (int what = 0; what <= 7; what++) e.is("count(" + what + ")", x.count(what), 0);
        for (int what = 8; what <= 11; what++) e.is("count(" + what + ")", x.count(what), Edges.NONE);
        e.is("late(0, 0): the pair of no bits", x.late(0, 0), Edges.STATE);
        for (int pair = 1; pair < 256; pair++) e.is("late(" + pair + ", 0): a bit", x.late(pair, 0), Edges.OUTSIDE);

        e.about(1, "NONE is -9.");
        e.is("NONE", SlowPaths.NONE, -9);
        e.is("fault() of a circuit", Due.told("C1~a>a").fault(), -9);
    }

    private void write() {
        e.about(2, "A letter (0 to 255) comes behind THE TEXT: how long it is.");
        for (int letter = 0; letter <= 255; letter++) e.is("write(" + letter + ")", new SlowPaths().write(letter), 1);
        SlowPaths x = new SlowPaths();
        e.is("C", x.write('C'), 1);
        e.is("behind C", x.write('1'), 2);
        e.is("fault(), the order is the order of writing", x.fault(), 2);

        e.about(2, "OUTSIDE; FULL: there are 40.");
        for (int letter : new int[] {-1, 256, Edges.LEAST, Edges.MOST, 'C' + 256, 'C' - 256})
            e.refused("write(" + letter + ")", o -> o.write(letter), Edges.OUTSIDE, State.values());
        for (int letter : new int[] {0, 'C', 255})
            e.refused("write(" + letter + ")", o -> o.write(letter), Edges.FULL, State.FULL);

        e.about(2, "THE TEXT is letters (40 at most).");
        x = new SlowPaths();
        for (int i = 1; i <= 40; i++) e.is("letter " + i, x.write('C'), i);
        e.is("letter 41", x.write('C'), Edges.FULL);
        e.is("letter 41 once more", x.write('C'), Edges.FULL);
        e.is("count(0)", x.count(0), 40);
        e.is("wipe()", x.wipe(), 40);
        for (int i = 1; i <= 40; i++) e.is("letter " + i + " behind wipe()", x.write('C'), i);
        e.is("letter 41 behind wipe()", x.write('C'), Edges.FULL);
    }

    private void wipe() {
        e.about(3, "THE TEXT is empty: how long it was.");
        SlowPaths x = new SlowPaths();
        e.is("wipe() of none", x.wipe(), 0);
        x.write(0);
        e.is("wipe() of one", x.wipe(), 1);
        e.is("wipe() of none again", x.wipe(), 0);
        for (int i = 0; i < 41; i++) x.write('C');
        e.is("wipe() of 40", x.wipe(), 40);
        e.is("count(0)", x.count(0), 0);
        e.is("fault() of none", x.fault(), 0);
        e.is("circuit() of none", x.circuit(), Edges.STATE);
        x = Due.told("C2&ab>0a");
        e.is("wipe() of a circuit's text", x.wipe(), 8);
        e.is("the circuit stays", x.count(2), 1);
        e.is("its inputs stay", x.count(1), 2);
        e.is("its paths stay", x.count(3), 2);
    }

    /** What the fault is, twice, since telling it changes nothing; and that a circuit is one without. */
    private void fault(String text, int want) {
        SlowPaths x = new SlowPaths();
        Due.type(x, text);
        e.is("fault() of " + text, x.fault(), want);
        e.is("fault() of " + text + " again", x.fault(), want);
        if (want == Edges.NONE) e.is("circuit() of " + text + " is one", x.circuit() > 0 ? 1 : 0, 1);
        else e.is("circuit() of " + text, x.circuit(), Edges.STATE);
    }

    private void begins(String text) {
        fault(text, text.length());
    }

    private void atLast(String text) {
        fault(text, text.length() - 1);
    }

    private void faultOfInputs() {
        e.about(4, "INPUTS are a to d (n of them, 1 to 4)");
        for (char c = 0; c < 256; c++) {
            if (c >= '1' && c <= '4') begins("C" + c);
            else atLast("C" + c);
        }
        for (int n = 1; n <= 4; n++)
            for (char c = 'a'; c <= 'f'; c++) {
                if (c < 'a' + n) begins("C" + n + "~" + c);
                else atLast("C" + n + "~" + c);
            }
        atLast("C4~`");
        atLast("C4~A");
    }

    private static String nots(int many) {
        StringBuilder s = new StringBuilder("C1~a");
        for (int g = 1; g < many; g++) s.append('~').append(g - 1);
        return s.toString();
    }

    private void faultOfGates() {
        e.about(4, "GATES 0 to 7 (8 at most).");
        for (int many = 1; many <= 8; many++) {
            begins(nots(many));
            fault(nots(many) + ">a", Edges.NONE);
        }
        for (String sign : new String[] {"~", "&", "|", "n", "o"}) {
            begins(nots(7) + sign);
            atLast(nots(8) + sign);
        }
        fault(nots(8) + "~7>a", 18);
        String most = "C2" + "&ab".repeat(8);
        fault(most + ">aa", Edges.NONE);
        fault(most + "&ab>aa", 26);
        begins("C2" + "&ab".repeat(7) + "&ab");

        e.about(4, "A CIRCUIT is a TEXT: C, a figure n, then GATES (1 or more), numbered as they are told, then > and n SIGNALS.");
        begins("");
        for (char c = 0; c < 256; c++) {
            if (c == 'C') begins("" + c);
            else atLast("" + c);
        }
        for (int n = 1; n <= 4; n++) {
            atLast("C" + n + ">");
            begins("C" + n + "~a");
            begins("C" + n + "~a>");
        }
        for (char c = 0; c < 256; c++) {
            if ("&|no~>".indexOf(c) >= 0) begins("C1~a" + c);
            else atLast("C1~a" + c);
        }
        fault("C1~a~0|01>2", Edges.NONE);
    }

    private void faultOfSignals() {
        e.about(4, "A SIGNAL is an INPUT (its letter), or a GATE (its figure).");
        for (char c = 0; c < 256; c++) {
            if ("ab01".indexOf(c) >= 0) begins("C2~a~b~" + c);
            else atLast("C2~a~b~" + c);
        }

        e.about(4, "then two unlike SIGNALS (~: one), INPUTS or GATES ahead of it.");
        for (String sign : new String[] {"&", "|", "n", "o"}) {
            atLast("C2" + sign + "aa");
            atLast("C2" + sign + "bb");
            begins("C2" + sign + "ab");
            begins("C2" + sign + "ba");
            begins("C2" + sign + "a");
            atLast("C2" + sign + "a>");
            atLast("C2" + sign + "abb");
            begins("C2~a" + sign + "0b");
            begins("C2~a" + sign + "b0");
            atLast("C2~a" + sign + "00");
        }
        atLast("C1~aa");
        atLast("C1~>");
        for (int many = 1; many <= 7; many++) {
            begins(nots(many) + "~" + (many - 1));
            begins(nots(many) + "&a" + (many - 1));
            begins(nots(many) + "&" + (many - 1) + "a");
            atLast(nots(many) + "~" + many);
            atLast(nots(many) + "&a" + many);
            atLast(nots(many) + "&" + many);
        }
        atLast("C1~0");
        atLast("C2&0");
        atLast("C2&a0");
    }

    private void faultOfNexts() {
        e.about(4, "The n SIGNALS at the end are NEXT of a, b, .. (INPUTS or any GATES).");
        for (int n = 1; n <= 4; n++) {
            String head = "C" + n + "~a>";
            for (int told = 0; told < n; told++) begins(head + "0".repeat(told));
            fault(head + "0".repeat(n), Edges.NONE);
            atLast(head + "0".repeat(n + 1));
            fault(head + "abcd".substring(0, n), Edges.NONE);
            for (char c = 'a'; c <= 'e'; c++) if (c >= 'a' + n) atLast(head + c);
        }
        for (int many = 1; many <= 8; many++) {
            for (int g = 0; g < many; g++) fault(nots(many) + ">" + g, Edges.NONE);
            atLast(nots(many) + ">" + many);
        }
        atLast("C1~a>>");
        atLast("C1~a>~");
        fault("C2&ab>0a", Edges.NONE);
        fault("C2&ab>aa", Edges.NONE);
    }

    private void faultInGeneral() {
        e.about(4, "FAULT: the place of the first letter by which THE TEXT can be no CIRCUIT, whatever came behind it"
                + " (its length set aside; so a sign of two SIGNALS while there is but one);");
        for (String sign : new String[] {"&", "|", "n", "o"}) {
            atLast("C1" + sign);
            fault("C1" + sign + "aa>a", 2);
            begins("C2" + sign);
            begins("C1~a" + sign);
        }
        begins("C1~");
        fault("C2&aa|bb>cc", 4);
        fault("xC1~a>a", 0);
        fault("C1~b~b", 3);
        for (int more = 1; more <= 9; more++) fault(LONGEST + "a".repeat(more), 31);

        e.about(4, "its length, if it is only not at its end; NONE: none.");
        e.is("the longest circuit is", LONGEST.length(), 31);
        for (int many = 0; many < LONGEST.length(); many++) begins(LONGEST.substring(0, many));
        fault(LONGEST, Edges.NONE);
        fault("C1~a>a", Edges.NONE);

        e.about(4, "FAULT; NONE.");
        fault("", 0);
        fault("C1~a>0", Edges.NONE);
        e.unchanged("fault()", SlowPaths::fault, State.values());
    }

    private int circuitOf(SlowPaths x, String text) {
        Due.type(x, text);
        return x.circuit();
    }

    private void circuit() {
        e.about(5, "THE TEXT is THE CIRCUIT");
        SlowPaths x = new SlowPaths();
        e.is("circuit() of the longest", circuitOf(x, LONGEST) > 0 ? 1 : 0, 1);
        e.is("its inputs", x.count(1), 4);
        e.is("its gates", x.count(2), 8);
        e.is("the text stays", x.count(0), 31);
        e.is("circuit() of the shortest", circuitOf(x, "C1~a>a"), 1);
        e.is("its inputs", x.count(1), 1);
        e.is("its gates", x.count(2), 1);
        e.is("gate 1 is gone", x.gate(1, 0), Edges.UNKNOWN);
        e.is("b is gone", x.count(9), Edges.NONE);
        e.is("a pair of b is gone", x.late(2, 0), Edges.OUTSIDE);
        e.is("path 1 is gone", x.path(1, 0), Edges.UNKNOWN);
        circuitOfLikeKinds();

        e.about(5, "how many PATHS.");
        e.is("one gate, one path", circuitOf(x, "C1~a>a"), 1);
        e.is("gates that lead nowhere", circuitOf(x, "C4~a&bc|1d~0>abcd"), 1);
        e.is("as many as there can be", circuitOf(x, CircuitTest.DEEP), 55);
        e.is("count(3)", x.count(3), 55);
        e.is("each gate by the two ahead of it", circuitOf(x, "C1~a&0a&10&21&32&43&54&65>0"), 34);

        e.about(5, "STATE: a FAULT.");
        e.refused("circuit() of a text with a fault", SlowPaths::circuit, Edges.STATE, State.values());
        x = Due.told("C1~a>a");
        Due.type(x, "C2&ab>a");
        e.is("one letter less", x.circuit(), Edges.STATE);
        e.is("the old circuit", x.count(1), 1);
        x.write('b');
        e.is("with that letter", x.circuit(), 2);
        x.write('b');
        e.is("one letter more", x.circuit(), Edges.STATE);
        e.is("the circuit without it", x.count(1), 2);
    }

    /** What was found of pairs by the circuit before is gone with it, even if the kinds are the same. */
    private void circuitOfLikeKinds() {
        SlowPaths x = Due.told("C2~a>ab");
        e.is("a rises", x.best(0, 1, 0, 0), 1);
        e.is("circuit() of ~b", circuitOf(x, "C2~b>ab"), 1);
        e.is("b rises", x.best(0, 1, 0, 0), 2);
        e.is("circuit() of other nexts", circuitOf(x, "C2~b>a0"), 1);
        e.is("b rises, captured", x.best(0, 1, 2, 0), 2);
        e.is("circuit() of four inputs", circuitOf(x, "C4~b>abcd"), 1);
        e.is("b rises, of four", x.best(0, 1, 0, 1), 64);
        e.is("circuit() of more that lives", circuitOf(x, "C4~a&bc>abcd"), 2);
        e.is("pruned() of it", x.pruned(), 0);
        e.is("circuit() of fewer inputs", circuitOf(x, "C1~a&a0>a"), 2);
        e.is("pruned() of it", x.pruned(), 4);
        e.is("count(4) of it", x.count(4), 0);
    }

    private void circuitForgets() {
        e.about(5, "(DELAYS are 1, THE ROW of ACTS is empty, what was kept is gone; SEEN, THE SEED stay)");
        SlowPaths x = Due.told(CircuitTest.DEEP);
        for (int g = 0; g < 8; g++) {
            x.slow(g, 9);
            x.turn(g, 3);
        }
        x.keep(0);
        x.keep(1);
        for (int i = 0; i < 6; i++) x.see(i, i, 1);
        x.seed(Long.MIN_VALUE);
        e.is("circuit()", x.circuit(), 55);
        for (int g = 0; g < 8; g++) {
            e.is("delay of " + g, x.gate(g, 3), 1);
            e.is("kind of " + g, x.gate(g, 0), 0);
        }
        e.is("count(6)", x.count(6), 0);
        e.is("undo()", x.undo(), Edges.STATE);
        e.is("again(0)", x.again(0), Edges.STATE);
        e.is("again(1)", x.again(1), Edges.STATE);
        e.is("count(7)", x.count(7), 6);
        e.is("see() of a seventh", x.see(0, 0, 0), Edges.FULL);
        e.is("the seed", x.seed(0), Long.MIN_VALUE);

        e.about(5, "Each GATE has a DELAY, 1 at first.");
        x = Due.told(LONGEST);
        for (int g = 0; g < 8; g++) e.is("delay of " + g, x.gate(g, 3), 1);
        e.is("count(5)", x.count(5), 8);
    }

    private void gate() {
        e.about(6, "Of a GATE KIND (what = 0), the first SIGNAL (1: an INPUT 0 to 3, a GATE 10 and its number),"
                + " the other one (2; NONE), DELAY (3).");
        SlowPaths x = Due.told("C4&ad|bcnc0o1d~3~4|5a&60>abcd");
        int[][] want = {{0, 0, 3, 1}, {1, 1, 2, 1}, {2, 2, 10, 1}, {3, 11, 3, 1}, {4, 13, -9, 1}, {4, 14, -9, 1},
            {1, 15, 0, 1}, {0, 16, 10, 1}};
        for (int g = 0; g < 8; g++)
            for (int what = 0; what <= 3; what++)
                e.is("gate(" + g + ", " + what + ")", x.gate(g, what), want[g][what]);
        x.slow(7, 9);
        x.turn(7, 3);
        e.is("the greatest delay", x.gate(7, 3), 9);
        e.is("a kind that was turned", x.gate(7, 0), 3);

        e.about(6, "UNKNOWN; OUTSIDE.");
        for (int what : new int[] {-1, 4, Edges.LEAST, Edges.MOST})
            e.refused("gate(0, " + what + ")", o -> o.gate(0, what), Edges.OUTSIDE, State.RICH, State.FULL);
        for (int g : new int[] {-1, 8, Edges.LEAST, Edges.MOST})
            e.refused("gate(" + g + ", 0)", o -> o.gate(g, 0), Edges.UNKNOWN, State.values());
        e.refused("gate(4, 0) of four", o -> o.gate(4, 0), Edges.UNKNOWN, State.RICH);
        e.refused("gate(0, 0) of none", o -> o.gate(0, 0), Edges.UNKNOWN, State.FRESH);
        e.is("gate(3, 0) of four", State.RICH.make().gate(3, 0), 4);
        e.is("gate(7, 3) of eight", State.FULL.make().gate(7, 3), 2);
    }
}
