import java.lang.management.ManagementFactory;
import java.util.Random;

/** Promises 1 to 42: no call throws, for any arguments, in any state, and none makes objects. */
final class RoomTest {
    private static final Check check = Check.begin();
    private static final int[] ODD = {-1, 0, 1, 2, 3, 4, 5, 6, 7, 8, 9, 10, 11, 12, 13, 14, 22, 33, 40, 41, 59, 60, 61, 70, 77, 78, 80,
        127, 128, 160, 161, Integer.MAX_VALUE, Integer.MIN_VALUE, Integer.MAX_VALUE - 2, 1 << 16, -20, -13};

    public static void main(String[] args) {
        for (int seed = 0; seed < 300; seed++) {
            Random random = new Random(seed);
            check.promise(1, "No WALLS, no SAYINGS, nobody");
            VoiceFall x = new VoiceFall();
            check.that("nothing is there", x.rule(0) + x.rule(1) + x.rule(2) == 0);
            if (seed % 3 > 0) {
                x = full();
            }
            for (int i = 0; i < 256; i++) {
                calmly(x, random.nextInt(41), random, seed % 2 == 0);
            }
        }
        check.promise(0, "");
        calm();
        check.finish(1, 42);
    }

    private static void calmly(VoiceFall x, int which, Random random, boolean small) {
        String call = Check.CALLS.get(which);
        check.promiseOf(call, "for any arguments, in any state");
        String thrown = "";
        try {
            call(x, which, random, small);
        } catch (RuntimeException e) {
            thrown = e.toString();
        }
        check.that(call + " does not throw " + thrown, thrown.isEmpty());
    }

    private static VoiceFall full() {
        return Check.told("plain 33 1 4 0;small 55 2 5 2;sermon 30 0 4 1;proposal 37 2 5 3;sermon 0 1 9 0;wall 31;wind 2 0;wind 3 1;wind 0 2;hearer 22;hearer 3;hearer 35;");
    }

    /** The objects of some thousand calls, measured by what the thread has been given. */
    private static void calm() {
        if (!(ManagementFactory.getThreadMXBean() instanceof com.sun.management.ThreadMXBean bean)) {
            return;
        }
        VoiceFall x = full();
        Random random = new Random(5);
        for (int i = 0; i < 5000; i++) {
            call(x, random.nextInt(41), random, true);
        }
        long before = bean.getCurrentThreadAllocatedBytes();
        for (int i = 0; i < 5000; i++) {
            call(x, random.nextInt(41), random, true);
        }
        long made = bean.getCurrentThreadAllocatedBytes() - before;
        check.that("5000 calls made " + made + " bytes", made < 100_000);
    }

    private static long call(VoiceFall x, int which, Random r, boolean small) {
        int a = number(r, small);
        int b = number(r, small);
        int c = number(r, small);
        int d = number(r, small);
        switch (which) {
            case 0: return x.feed(a);
            case 1: return x.end(a);
            case 2: return r.nextInt(8) == 0 ? x.text() : 0;
            case 3: return x.fault();
            case 4: return x.rule(a);
            case 5: return x.saying(a, b);
            case 6: return x.hearer(a);
            case 7: return x.wall(a);
            case 8: return x.wind(a);
            case 9: return x.alter(a, b, c);
            case 10: return x.stand(a, b);
            case 11: return x.build(a, b > 5);
            case 12: return x.blow(a, b);
            case 13: return x.say(a, b, c);
            case 14: return x.lands(a, b);
            case 15: return x.hears(a);
            case 16: return x.field(a, b);
            case 17: return x.sum(a);
            case 18: return x.most(a);
            case 19: return x.aim(a, b);
            case 20: return x.reach(a);
            case 21: return x.screen(a);
            case 22: return x.walk(a, b);
            case 23: return x.walks(a);
            case 24: return x.when(a, b);
            case 25: return x.luck(a, b, c, d);
            case 26: return x.mean(a, b);
            case 27: return x.see(a, b);
            case 28: return x.forget(a);
            case 29: return x.kinds(a);
            case 30: return x.forces(a);
            case 31: return x.froms(a, b);
            case 32: return x.look(a, b);
            case 33: return x.drift(r.nextInt(), b, c);
            case 34: return x.keep(a);
            case 35: return x.back(a);
            case 36: return x.sheet(a, b, c);
            case 37: return x.lay(a, b, c);
            case 38: return x.read(a, b, c, d);
            case 39: return x.torn();
            default: return x.count(a);
        }
    }

    private static int number(Random r, boolean small) {
        return small ? r.nextInt(8) - 1 : ODD[r.nextInt(ODD.length)];
    }

    private RoomTest() {
    }
}
