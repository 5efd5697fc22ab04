/** Promise 35, sentence by sentence: n, seeds that wrap around, one SAYING and five, refused calls. */
final class DriftEdgesTest {
    private static final Check check = Check.begin();
    private static final int STATE = VoiceFall.STATE;

    public static void main(String[] args) {
        bad();
        none();
        seeds();
        modulo();
        summed();
        check.promise(35, "By itself: nothing is changed");
        changedNothing();
        check.finish(35, 35);
    }

    private static void bad() {
        VoiceFall x = Check.told("plain 33 0 1 0;");
        check.promise(35, "BAD: n times (1 to 60)");
        check.bounds("drift(7, n, 0)", n -> x.drift(7, n, 0), 1, 60);
        check.bounds("drift(7, n, 1)", n -> x.drift(7, n, 1), 1, 60);
        check.promise(35, "BAD: what 0, 1");
        check.bounds("drift(7, 1, what)", what -> x.drift(7, 1, what), 0, 1);
        check.promise(35, "a seed is any number");
        for (int seed : new int[] {0, 1, -1, Integer.MIN_VALUE, Integer.MAX_VALUE}) {
            check.that("drift(" + seed + ", 60, 0) is not refused", x.drift(seed, 60, 0) >= 0);
        }
    }

    private static void none() {
        VoiceFall x = Check.told("hearer 0;wall 1;");
        check.promise(35, "STATE: there are no SAYINGS");
        check.due("drift(1, 1, 0)", x.drift(1, 1, 0), STATE);
        check.due("drift(1, 60, 1)", x.drift(1, 60, 1), STATE);
        check.promise(35, "BAD goes ahead of STATE");
        check.bad("drift(1, n, 0)", n -> x.drift(1, n, 0), 0, 61, -1);
        check.bad("drift(1, 1, what)", what -> x.drift(1, 1, what), 2, -1);
        check.promise(35, "not STATE: there is one");
        x.say(33, 0, 1);
        check.due("drift(0, 1, 1)", x.drift(0, 1, 1), 34);
    }

    /**
     * By hand: seed 0 becomes 12345, got is 0: WAY 0, FORCE 1. Seed 1 becomes 1103527590, got 16838: WAY 0, FORCE 5.
     * Seed -1 becomes -1103502900, bits 16 to 30 of it are 15929: WAY 3, FORCE 3; so are those of the largest seed, since
     * only bit 31 is another one; and the least seed is like 0.
     */
    private static void seeds() {
        VoiceFall x = Check.told("plain 33 2 9 0;");
        check.promise(35, "the seed becomes seed times 1103515245 and 12345; bits 16 to 30 of it are got");
        check.due("drift(0, 1, 1)", x.drift(0, 1, 1), 34);
        check.due("drift(1, 1, 1)", x.drift(1, 1, 1), 37);
        check.due("drift(-1, 1, 1)", x.drift(-1, 1, 1), 3);
        check.due("drift(MAX_VALUE, 1, 1)", x.drift(Integer.MAX_VALUE, 1, 1), 3);
        check.due("drift(MIN_VALUE, 1, 1)", x.drift(Integer.MIN_VALUE, 1, 1), 34);
        check.promise(35, "WAY got by 8 (down) modulo 4, FORCE 1 and got by 32 (down) modulo 9");
        x = Check.told("plain 0 2 9 0;");
        check.due("drift(1, 1, 1): FORCE 5 north", x.drift(1, 1, 1), 5);
        x = Check.told("plain 77 2 9 0;");
        check.due("drift(-1, 1, 1): FORCE 3 west", x.drift(-1, 1, 1), 47);
    }

    private static void modulo() {
        check.promise(35, "the SAYING got modulo SAYINGS: 16838 by 1, 2, 3, 4, 5");
        int[] which = {0, 0, 2, 2, 3};
        for (int n = 1; n <= 5; n++) {
            VoiceFall x = new VoiceFall();
            for (int s = 0; s < n; s++) {
                x.say(10 * s, 2, 1);
            }
            check.due("drift(1, 1, 1) of " + n, x.drift(1, 1, 1), which[n - 1] == 0 ? 5 : 0);
            for (int s = 0; s < n; s++) {
                check.due("heard where SAYING " + s + " comes to, of " + n, heardAt(n, 10 * s + 5), which[n - 1] == s ? 1 : 0);
            }
        }
    }

    private static int heardAt(int n, int cell) {
        StringBuilder tape = new StringBuilder("hearer " + cell + ";");
        for (int s = 0; s < n; s++) {
            tape.append("plain ").append(10 * s).append(" 2 1 0;");
        }
        return Check.told(tape.toString()).drift(1, 1, 0);
    }

    private static void summed() {
        check.promise(35, "SAYINGS heard by THE DAY behind each, summed: none, and 60 times 5");
        VoiceFall x = Check.told("plain0 0 1 0;".repeat(5));
        check.due("nobody", x.drift(5, 60, 0), 0);
        x = Check.told("plain 33 0 1 0;wall 34;wall 43;wall 32;wall 23;hearer 33;hearer 33;");
        for (int n = 1; n <= 60; n++) {
            check.due("held on all sides, " + n + " times", x.drift(5, n, 0), n);
        }
        for (int s = 0; s < 4; s++) {
            x.say(33, 0, 1);
        }
        check.due("five, held on all sides", x.drift(5, 60, 0), 300);
        check.due("where SAYING 0 LANDS in the end", x.drift(5, 60, 1), 33);
    }

    private static void changedNothing() {
        VoiceFall x = Check.told("small 33 2 9 5;plain 44 1 2 0;hearer 0;");
        x.drift(1, 60, 0);
        x.drift(1, 60, 1);
        int[][] parts = {{1, 33, 2, 9, 5}, {0, 44, 1, 2, 0}};
        for (int s = 0; s < 2; s++) {
            for (int what = 0; what < 5; what++) {
                check.due("saying(" + s + ", " + what + ")", x.saying(s, what), parts[s][what]);
            }
        }
        check.promise(35, "the same seed again: the same answer");
        check.due("drift(9, 30, 1)", x.drift(9, 30, 1), x.drift(9, 30, 1));
    }
}
