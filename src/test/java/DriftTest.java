/** Promise 35: drift, against the same told again call by call. */
final class DriftTest {
    private static final Check check = Check.begin();

    public static void main(String[] args) {
        String tape = "plain 33 1 4 0;small 55 2 5 2;sermon 30 0 4 1;proposal 37 2 5 3;wall 31;wind 2 0;hearer 22;hearer 3;hearer 35;hearer 37;";
        int[] seeds = {0, 1, 2, -1, 7, 12345, 987654321, Integer.MAX_VALUE, Integer.MIN_VALUE};
        int heard = 0;
        for (int seed : seeds) {
            for (int n : new int[] {1, 2, 7, 60}) {
                heard += step(tape, seed, n);
            }
        }
        check.that("something was heard by drift", heard > 0);
        wrong(tape);
        check.finish(35, 35);
    }

    private static int step(String tape, int seed, int n) {
        check.promise(35, "drift");
        VoiceFall x = Check.told(tape);
        VoiceFall y = Check.told(tape);
        long next = seed;
        int heard = 0;
        for (int i = 0; i < n; i++) {
            next = (next * 1103515245L + 12345L) & 0xffffffffL;
            int got = (int) (next / 65536 % 32768);
            y.alter(got % 4, 2, got / 8 % 4);
            y.alter(got % 4, 3, 1 + got / 32 % 9);
            heard += y.sum(0);
        }
        check.due("drift(" + seed + ", " + n + ", 0)", x.drift(seed, n, 0), heard);
        check.due("drift(" + seed + ", " + n + ", 1)", x.drift(seed, n, 1), y.lands(0, 0));
        check.due("the coast stays as it is", x.count(4), 18);
        check.due("the coast stays as it is", x.saying(0, 2), 1);
        return heard;
    }

    private static void wrong(String tape) {
        check.promise(35, "drift: refused");
        VoiceFall x = new VoiceFall();
        check.due("drift of nothing", x.drift(1, 1, 0), VoiceFall.STATE);
        check.due("drift of nothing, n 0", x.drift(1, 0, 0), VoiceFall.BAD);
        x = Check.told(tape);
        check.due("drift, n 0", x.drift(1, 0, 0), VoiceFall.BAD);
        check.due("drift, n 61", x.drift(1, 61, 0), VoiceFall.BAD);
        check.due("drift, what 2", x.drift(1, 1, 2), VoiceFall.BAD);
        check.due("drift, what -1", x.drift(1, 1, -1), VoiceFall.BAD);
    }
}
