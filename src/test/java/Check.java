import java.util.List;
import java.util.TreeSet;

/** What the project's tests share: answers that are due, the promise they belong to, and the telling of a text. */
final class Check {
    /** Numbers that name no CELL: beside the coast on each side, and far off. */
    private static final int[] NO_CELLS = {-1, -2, -10, -11, 8, 9, 18, 19, 28, 38, 48, 58, 68, 69, 78, 79, 80, 81, 87, 88, 90, 99, 100,
        107, 256, 65536, Integer.MAX_VALUE, Integer.MIN_VALUE};

    /** The calls in the order of the document: the first is promise 2, since promise 1 is a new object. */
    static final List<String> CALLS = List.of("feed", "end", "text", "fault", "rule", "saying", "hearer", "wall", "wind", "alter",
        "stand", "build", "blow", "say", "lands", "hears", "field", "sum", "most", "aim", "reach", "screen", "walk", "walks", "when",
        "luck", "mean", "see", "forget", "kinds", "forces", "froms", "look", "drift", "keep", "back", "sheet", "lay", "read", "torn",
        "count");

    private final TreeSet<Integer> promises = new TreeSet<>();
    private int promise;
    private String sentence = "";
    private int asked;
    private int wrong;

    /** A call that is tried with numbers of its own. */
    interface Call {
        long of(int v);
    }

    /** What is asked from here on belongs to this promise, and to this sentence of the document. */
    void promise(int number, String words) {
        promise = number;
        sentence = words;
    }

    /** Likewise, by the name of a call. */
    void promiseOf(String call, String words) {
        promise(CALLS.indexOf(call) + 2, words);
    }

    void due(String call, long got, long want) {
        count();
        if (got != want) {
            tellWrong(call + " answered " + got + ", due is " + want);
        }
    }

    void that(String what, boolean holds) {
        count();
        if (!holds) {
            tellWrong("not so: " + what);
        }
    }

    private void count() {
        asked++;
        promises.add(promise);
    }

    private void tellWrong(String what) {
        wrong++;
        System.out.println((promise == 0 ? "" : "promise " + promise + " (" + sentence + "): ") + what);
    }

    /** BAD for all numbers that are told. */
    void bad(String call, Call c, int... values) {
        for (int v : values) {
            due(call + " with " + v, c.of(v), VoiceFall.BAD);
        }
    }

    /** BAD one below the least, one above the most, and far off on both sides. */
    void bounds(String call, Call c, int least, int most) {
        bad(call, c, least - 1, most + 1, least - 256, most + 256, most + 65536, Integer.MIN_VALUE, Integer.MAX_VALUE);
        that(call + " with " + least + " is not BAD", c.of(least) != VoiceFall.BAD);
        that(call + " with " + most + " is not BAD", c.of(most) != VoiceFall.BAD);
    }

    /** BAD for all numbers that name no CELL; the four corners are CELLS. */
    void cells(String call, Call c) {
        bad(call, c, NO_CELLS);
        for (int corner : new int[] {0, 7, 70, 77}) {
            that(call + " with " + corner + " is not BAD", c.of(corner) != VoiceFall.BAD);
        }
    }

    /** Ends the test: exit code 1 if an answer was not the one that was due. */
    void finish() {
        System.out.println(wrong == 0 ? asked + " answers are as due" : wrong + " of " + asked + " answers are not as due");
        if (wrong != 0) {
            System.exit(1);
        }
    }

    /** Ends the test of some promises, of each of which something must have been asked. */
    void finish(int first, int last) {
        for (int n = first; n <= last; n++) {
            if (!promises.contains(n)) {
                wrong++;
                System.out.println("promise " + n + " has no test here");
            }
        }
        finish();
    }

    static void feed(VoiceFall x, String tape) {
        for (int i = 0; i < tape.length(); i++) {
            x.feed(tape.charAt(i));
        }
    }

    static int tell(VoiceFall x, String tape) {
        feed(x, tape);
        return x.text();
    }

    static VoiceFall told(String tape) {
        VoiceFall x = new VoiceFall();
        int lines = tell(x, tape);
        if (lines < 0) {
            throw new IllegalStateException("a test's own text is refused: " + tape);
        }
        return x;
    }

    private Check() {
    }

    static Check begin() {
        return new Check();
    }
}
