import java.util.ArrayList;
import java.util.List;

/**
 * All that can be seen of an object, in a row; two objects of like pictures are in the same state.
 * It uses the object up: acts are undone, slots gone on from, the text is made the circuit.
 * With what a State needs it stays below 512 calls.
 */
final class Picture {
    private final SlowPaths x;
    private final List<Long> row = new ArrayList<>();

    private Picture(SlowPaths x) {
        this.x = x;
    }

    static List<Long> of(SlowPaths x) {
        Picture p = new Picture(x);
        p.counts();
        p.answers();
        p.chances();
        p.seeds();
        p.acts();
        p.slots();
        p.text();
        return p.row;
    }

    private void add(long answer) {
        row.add(answer);
    }

    private void counts() {
        for (int what = 0; what <= 11; what++) add(x.count(what));
        add(x.fault());
        for (int g = 0; g < 8; g++) for (int what = 0; what <= 3; what++) add(x.gate(g, what));
    }

    private void answers() {
        for (int p = 0; p < 6; p++) {
            for (int what = 0; what <= 4; what++) add(x.path(p, what));
            add(x.tests(p, 3));
            add(x.best(p, 1, 0, 0));
            add(x.best(p, 0, 2, 1));
        }
        add(x.longest(0));
        add(x.longest(1));
        for (int g = 0; g < 8; g++) add(x.value(g, 0x21) * 16L + x.wave(g, 0x21, 5));
        add(x.pruned());
        for (int how = 0; how <= 2; how++) add(x.packed(how, -1) * 256L + x.packed(how, 0));
        for (int t = 0; t < 12; t++) add(x.late(3, 2 * t));
        add(x.judge(2, 2001_6002L));
    }

    private void chances() {
        add(x.slower(0));
        add(x.slower(1));
        add(x.share(1, true) * 100_000L + x.share(1, false));
        add(x.slows(3, 5, 4, true));
        add(x.slows(3, 5, 4, false));
    }

    private void seeds() {
        long seed = x.seed(5);
        add(seed);
        x.seed(seed);
        add(x.drawn(3));
        add(x.seed(0));
    }

    private void acts() {
        for (int i = 0; i < 16; i++) {
            add(x.undo());
            add(x.count(5));
        }
        settings();
    }

    private void slots() {
        for (int slot = 0; slot <= 1; slot++) {
            add(x.again(slot));
            settings();
        }
    }

    private void settings() {
        for (int g = 0; g < 8; g++) add(x.gate(g, 0) * 10L + x.gate(g, 3));
    }

    private void text() {
        add(x.circuit());
        add(x.write('x'));
        add(x.wipe());
        add(x.fault());
        add(x.unsee());
    }
}
