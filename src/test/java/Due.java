/** Compares answers with those that are due, and tells objects their circuits. */
final class Due {
    private final String name;
    private int calls = 0;
    private int wrong = 0;

    Due(String name) {
        this.name = name;
    }

    void is(String call, long got, long want) {
        calls++;
        if (got != want) {
            wrong++;
            if (wrong <= 40) {
                System.out.println(name + ": " + call + " answered " + got + ", due is " + want);
            }
        }
    }

    boolean isWrong() {
        return wrong != 0;
    }

    void end() {
        System.out.println(name + ": " + calls + " answers, " + wrong + " wrong");
        if (wrong != 0) {
            System.exit(1);
        }
    }

    static void type(SlowPaths x, String text) {
        x.wipe();
        for (int i = 0; i < text.length(); i++) {
            x.write(text.charAt(i));
        }
    }

    static SlowPaths told(String text) {
        SlowPaths x = new SlowPaths();
        type(x, text);
        if (x.circuit() < 1) {
            throw new IllegalStateException(text + " is no circuit");
        }
        return x;
    }

    static int pair(int first, int second) {
        return first * 16 + second;
    }
}
