import java.nio.file.Path;
import java.util.List;
import java.util.function.ToLongFunction;

/** Tests of boundary cases: each is about a sentence of the document, and bears a promise's number. */
final class Edges {
    static final int UNKNOWN = -1, OUTSIDE = -2, STATE = -3, FULL = -4, NONE = -9;
    static final int LEAST = Integer.MIN_VALUE, MOST = Integer.MAX_VALUE;

    private final Sentences sentences;
    private int promise = 0;
    private String sentence = "";
    private int tests = 0;
    private int answers = 0;
    private int answersOfOne = 1;
    private int wrong = 0;

    Edges(Path document) {
        sentences = Sentences.of(document);
    }

    /** A test of its own begins here: what is compared from now on is about this sentence. */
    void about(int number, String words) {
        endOfOne();
        promise = number;
        sentence = words;
        tests++;
        answersOfOne = 0;
        if (!sentences.mark(number, words)) tell("the document does not say so there");
    }

    private void endOfOne() {
        if (answersOfOne == 0) tell("nothing was compared");
    }

    private void tell(String what) {
        wrong++;
        if (wrong <= 60) System.out.println("promise " + promise + ", \"" + sentence + "\": " + what);
    }

    void is(String call, long got, long want) {
        answers++;
        answersOfOne++;
        if (got != want) tell(call + " answered " + got + ", due is " + want);
    }

    /** A call that is refused answers so, and the object is as one on which it was not called. */
    void refused(String call, ToLongFunction<SlowPaths> asked, long want, State... states) {
        for (State state : states) {
            SlowPaths x = state.make();
            is(state + ": " + call, asked.applyAsLong(x), want);
            alike(state + ": behind " + call, x, state.make());
        }
    }

    /** A call that only tells leaves the object as it was. */
    void unchanged(String call, ToLongFunction<SlowPaths> asked, State... states) {
        for (State state : states) {
            SlowPaths x = state.make();
            asked.applyAsLong(x);
            alike(state + ": behind " + call, x, state.make());
        }
    }

    /** Uses up both objects. */
    void alike(String when, SlowPaths one, SlowPaths other) {
        List<Long> got = Picture.of(one);
        List<Long> want = Picture.of(other);
        int at = 0;
        while (at < want.size() && got.get(at).equals(want.get(at))) at++;
        is(when + ", the place at which it is another than it was", at, want.size());
    }

    void end() {
        endOfOne();
        for (String left : sentences.unmarked()) {
            promise = 0;
            sentence = left;
            tell("no test is about it");
        }
        System.out.println("EdgesTest: " + tests + " tests, " + answers + " answers, " + wrong + " wrong");
        if (wrong != 0) System.exit(1);
    }
}
