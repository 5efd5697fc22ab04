import java.util.ArrayList;
import java.util.List;

/**
 * "What is refused changes nothing (but THE TAPE, as told)": every call of the face that can be refused is refused here,
 * by each sort of answer, on coasts that are empty, rich, full; all that can be asked thereafter is as without it.
 */
final class RefusedTest {
    private static final Check check = Check.begin();
    private static final int BAD = VoiceFall.BAD, STATE = VoiceFall.STATE, FULL = VoiceFall.FULL, NONE = VoiceFall.NONE;

    private interface Setup {
        VoiceFall make();
    }

    private interface Deed {
        long on(VoiceFall x);
    }

    private interface Asked {
        void of(VoiceFall x, List<Long> answers);
    }

    private static final Asked[] ALL = {RefusedTest::coast, RefusedTest::counts, (x, a) -> image(x, a, 0), (x, a) -> image(x, a, 1),
        RefusedTest::seen, RefusedTest::tape, RefusedTest::sheets};

    public static void main(String[] args) {
        text();
        change();
        best();
        seenAndDrift();
        imagesAndSheets();
        check.finish(2, 42);
    }

    private static VoiceFall rich() {
        VoiceFall x = Check.told("small 12 1 4 3;sermon 33 0 2 9;wall 31;wall 77;wind 2 0;wind 9 3;hearer 22;hearer 0;");
        x.see(0, 32);
        x.keep(0);
        x.see(1, 24);
        x.say(70, 3, 5);
        x.sheet(0, 0, 6);
        x.sheet(1, 2, 9);
        int[] cells = {11, 1, 3, 22, 0, 0};
        for (int i = 0; i < 6; i++) {
            x.lay(0, i, cells[i]);
            x.lay(1, i, cells[i]);
        }
        x.read(1, 0, 0, 1);
        Check.feed(x, "wall 8;");
        x.text();
        Check.feed(x, "wall 5;hearer 6;");
        return x;
    }

    private static VoiceFall full() {
        VoiceFall x = Check.told("plain0 0 1 0;".repeat(5) + "hearer1;".repeat(4));
        for (int i = 0; i < 12; i++) {
            x.build(70 - 10 * (i / 7) + i % 7, true);
        }
        for (int i = 0; i < 6; i++) {
            x.see(i % 5, 1);
        }
        x.keep(0);
        x.keep(1);
        x.sheet(0, 1, 40);
        x.lay(0, 2, 1);
        Check.feed(x, "wall 1;" + " ".repeat(153));
        return x;
    }

    private static void refused(int promise, String call, Setup setup, Deed deed, long due) {
        check.promise(promise, "what is refused changes nothing");
        check.due(call, deed.on(setup.make()), due);
        for (int i = 0; i < ALL.length; i++) {
            List<Long> with = new ArrayList<>();
            List<Long> without = new ArrayList<>();
            VoiceFall x = setup.make();
            deed.on(x);
            ALL[i].of(x, with);
            ALL[i].of(setup.make(), without);
            check.that(call + " changes nothing, part " + i, with.equals(without));
        }
    }

    private static void coast(VoiceFall x, List<Long> a) {
        for (int s = 0; s < 5; s++) {
            for (int what = 0; what < 6; what++) {
                a.add((long) x.saying(s, what));
            }
            a.add((long) x.lands(s, 0));
            a.add((long) x.hearer(s));
        }
        for (int place = 0; place < 64; place++) {
            a.add((long) x.wall(place / 8 * 10 + place % 8));
        }
        for (int hour = 0; hour < 10; hour++) {
            a.add((long) x.wind(hour));
        }
    }

    private static void counts(VoiceFall x, List<Long> a) {
        for (int what = 0; what < 5; what++) {
            a.add((long) x.rule(what));
            a.add((long) x.count(what));
            a.add((long) x.sum(what));
        }
        a.add((long) x.fault());
        a.add((long) x.torn());
    }

    private static void image(VoiceFall x, List<Long> a, int k) {
        a.add((long) x.back(k));
        coast(x, a);
        seen(x, a);
    }

    /** What was SEEN shows in the FORCES that are left, as one after the other is forgotten. */
    private static void seen(VoiceFall x, List<Long> a) {
        for (int n = x.count(0); n >= 0; n--) {
            x.forget(n);
            for (int s = 0; s < 5; s++) {
                a.add((long) x.forces(s));
                a.add((long) x.froms(s, 0));
            }
        }
    }

    private static void tape(VoiceFall x, List<Long> a) {
        a.add((long) x.text());
        a.add((long) x.fault());
        coast(x, a);
    }

    private static void sheets(VoiceFall x, List<Long> a) {
        for (int k = 0; k < 4; k++) {
            for (int lane = 0; lane < 3; lane++) {
                for (int f = 0; f < 9; f += 3) {
                    x.end(0);
                    x.text();
                    a.add((long) x.read(k, lane, f, 1));
                    a.add((long) x.torn());
                    a.add((long) x.saying(0, 1));
                    a.add((long) x.saying(0, 3));
                }
            }
        }
    }

    private static void text() {
        for (int c : new int[] {-1, 128, Integer.MIN_VALUE}) {
            refused(2, "feed(" + c + ")", RefusedTest::rich, x -> x.feed(c), BAD);
            refused(2, "feed(" + c + ") on a full TAPE", RefusedTest::full, x -> x.feed(c), BAD);
        }
        refused(2, "feed(120)", RefusedTest::full, x -> x.feed(120), FULL);
        refused(3, "end(-1)", RefusedTest::rich, x -> x.end(-1), BAD);
        refused(3, "end(17)", RefusedTest::rich, x -> x.end(17), BAD);
        refused(3, "end(161)", RefusedTest::full, x -> x.end(161), BAD);
        refused(3, "end(1)", VoiceFall::new, x -> x.end(1), BAD);
        for (int what : new int[] {-1, 4}) {
            refused(6, "rule(" + what + ")", RefusedTest::rich, x -> x.rule(what), BAD);
        }
        refused(7, "saying(3, 0)", RefusedTest::rich, x -> x.saying(3, 0), BAD);
        refused(7, "saying(0, 6)", RefusedTest::rich, x -> x.saying(0, 6), BAD);
        refused(8, "hearer(2)", RefusedTest::rich, x -> x.hearer(2), BAD);
        refused(9, "wall(8)", RefusedTest::rich, x -> x.wall(8), BAD);
        refused(10, "wind(10)", RefusedTest::rich, x -> x.wind(10), BAD);
        tapeAlone();
    }

    /** A text with a FAULT is refused, too: THE TAPE is empty then, fault() is told, all else stays. */
    private static void tapeAlone() {
        check.promise(4, "what is refused changes nothing (but THE TAPE, as told)");
        for (int i = 0; i < ALL.length; i++) {
            List<Long> with = new ArrayList<>();
            List<Long> without = new ArrayList<>();
            VoiceFall x = rich();
            check.due("text()", Check.tell(x, "plain 0 0 1 0;?"), -40);
            check.due("fault()", x.fault(), 1);
            VoiceFall y = rich();
            y.end(0);
            if (ALL[i] != ALL[1]) {
                ALL[i].of(x, with);
                ALL[i].of(y, without);
                check.that("a refused text() changes nothing, part " + i, with.equals(without));
            }
        }
        refused(5, "fault() is asked", RefusedTest::rich, VoiceFall::fault, 3);
    }

    private static void change() {
        int[][] alters = {{3, 0, 0}, {-1, 0, 0}, {0, 5, 1}, {0, -1, 1}, {0, 0, 4}, {0, 1, 8}, {0, 1, 80}, {0, 2, 4}, {0, 3, 0}, {0, 3, 10},
            {0, 4, 10}, {0, 4, -1}};
        for (int[] v : alters) {
            refused(11, "alter", RefusedTest::rich, x -> x.alter(v[0], v[1], v[2]), BAD);
        }
        int[][] stands = {{2, 0}, {-1, 0}, {0, 8}, {0, 80}, {1, -1}};
        for (int[] v : stands) {
            refused(12, "stand", RefusedTest::rich, x -> x.stand(v[0], v[1]), BAD);
        }
        for (int cell : new int[] {-1, 8, 80}) {
            refused(13, "build(" + cell + ", true)", RefusedTest::rich, x -> x.build(cell, true), BAD);
            refused(13, "build(" + cell + ", false)", RefusedTest::rich, x -> x.build(cell, false), BAD);
            refused(13, "build(" + cell + ", true) of 12", RefusedTest::full, x -> x.build(cell, true), BAD);
        }
        refused(13, "build(0, true)", RefusedTest::full, x -> x.build(0, true), FULL);
        int[][] blows = {{10, 0}, {-1, 0}, {0, 5}, {9, -1}};
        for (int[] v : blows) {
            refused(14, "blow", RefusedTest::rich, x -> x.blow(v[0], v[1]), BAD);
        }
        int[][] says = {{8, 0, 1}, {80, 0, 1}, {0, 4, 1}, {0, -1, 1}, {0, 0, 0}, {0, 0, 10}};
        for (int[] v : says) {
            refused(15, "say", RefusedTest::rich, x -> x.say(v[0], v[1], v[2]), BAD);
            refused(15, "say the 6th", RefusedTest::full, x -> x.say(v[0], v[1], v[2]), BAD);
        }
        refused(15, "say the 6th", RefusedTest::full, x -> x.say(0, 0, 1), FULL);
    }

    private static void best() {
        refused(16, "lands(3, 0)", RefusedTest::rich, x -> x.lands(3, 0), BAD);
        refused(16, "lands(0, 3)", RefusedTest::rich, x -> x.lands(0, 3), BAD);
        refused(17, "hears(2)", RefusedTest::rich, x -> x.hears(2), BAD);
        refused(18, "field(8, 0)", RefusedTest::rich, x -> x.field(8, 0), BAD);
        refused(18, "field(0, 2)", RefusedTest::rich, x -> x.field(0, 2), BAD);
        refused(19, "sum(4)", RefusedTest::rich, x -> x.sum(4), BAD);
        refused(20, "most(2)", RefusedTest::rich, x -> x.most(2), BAD);
        refused(21, "aim(3, 0)", RefusedTest::rich, x -> x.aim(3, 0), BAD);
        refused(21, "aim(0, 8)", RefusedTest::rich, x -> x.aim(0, 8), BAD);
        refused(21, "aim(0, 77)", RefusedTest::rich, x -> x.aim(0, 77), NONE);
        refused(22, "reach(3)", RefusedTest::rich, x -> x.reach(3), BAD);
        refused(23, "screen(8)", RefusedTest::rich, x -> x.screen(8), BAD);
        refused(23, "screen(55)", RefusedTest::rich, x -> x.screen(55), NONE);
        refused(23, "screen(1)", RefusedTest::full, x -> x.screen(1), FULL);
        refused(24, "walk(8, 0)", RefusedTest::rich, x -> x.walk(8, 0), BAD);
        refused(24, "walk(0, 8)", RefusedTest::rich, x -> x.walk(0, 8), BAD);
        refused(24, "walk(77, 0)", RefusedTest::rich, x -> x.walk(77, 0), NONE);
        refused(25, "walks(8)", RefusedTest::rich, x -> x.walks(8), BAD);
        refused(26, "when(3, 0)", RefusedTest::rich, x -> x.when(3, 0), BAD);
        refused(26, "when(0, 2)", RefusedTest::rich, x -> x.when(0, 2), BAD);
        int[][] lucks = {{-1, 0, 0, 0}, {11, 0, 0, 0}, {0, 3, 0, 0}, {0, 0, 8, 0}, {0, 0, 0, 2}};
        for (int[] v : lucks) {
            refused(27, "luck", RefusedTest::rich, x -> x.luck(v[0], v[1], v[2], v[3]), BAD);
        }
        refused(28, "mean(11, 0)", RefusedTest::rich, x -> x.mean(11, 0), BAD);
        refused(28, "mean(0, 2)", RefusedTest::rich, x -> x.mean(0, 2), BAD);
    }

    private static void seenAndDrift() {
        refused(29, "see(3, 0)", RefusedTest::rich, x -> x.see(3, 0), BAD);
        refused(29, "see(0, 8)", RefusedTest::rich, x -> x.see(0, 8), BAD);
        refused(29, "see the 7th", RefusedTest::full, x -> x.see(0, 77), FULL);
        refused(29, "see the 7th, no CELL", RefusedTest::full, x -> x.see(0, 78), BAD);
        refused(30, "forget(3)", RefusedTest::rich, x -> x.forget(3), BAD);
        refused(30, "forget(-1)", RefusedTest::rich, x -> x.forget(-1), BAD);
        refused(30, "forget(7)", RefusedTest::full, x -> x.forget(7), BAD);
        refused(31, "kinds(3)", RefusedTest::rich, x -> x.kinds(3), BAD);
        refused(32, "forces(3)", RefusedTest::rich, x -> x.forces(3), BAD);
        refused(33, "froms(3, 0)", RefusedTest::rich, x -> x.froms(3, 0), BAD);
        refused(33, "froms(0, 2)", RefusedTest::rich, x -> x.froms(0, 2), BAD);
        refused(34, "look(3, 0)", RefusedTest::rich, x -> x.look(3, 0), BAD);
        refused(34, "look(0, 2)", RefusedTest::rich, x -> x.look(0, 2), BAD);
        refused(35, "drift(1, 0, 0)", RefusedTest::rich, x -> x.drift(1, 0, 0), BAD);
        refused(35, "drift(1, 61, 0)", RefusedTest::rich, x -> x.drift(1, 61, 0), BAD);
        refused(35, "drift(1, 1, 2)", RefusedTest::rich, x -> x.drift(1, 1, 2), BAD);
        refused(35, "drift(1, 1, 0)", VoiceFall::new, x -> x.drift(1, 1, 0), STATE);
    }

    private static void imagesAndSheets() {
        refused(36, "keep(2)", RefusedTest::rich, x -> x.keep(2), BAD);
        refused(36, "keep(-1)", RefusedTest::full, x -> x.keep(-1), BAD);
        refused(37, "back(2)", RefusedTest::rich, x -> x.back(2), BAD);
        refused(37, "back(-1)", RefusedTest::full, x -> x.back(-1), BAD);
        refused(37, "back(1)", RefusedTest::rich, x -> x.back(1), STATE);
        int[][] sheets = {{4, 0, 1, BAD}, {-1, 0, 1, BAD}, {0, 3, 1, BAD}, {0, -1, 1, BAD}, {0, 1, 41, BAD}, {0, 1, -1, -14}, {2, 0, -1, -14}};
        for (int[] v : sheets) {
            refused(38, "sheet", RefusedTest::rich, x -> x.sheet(v[0], v[1], v[2]), v[3]);
        }
        int[][] lays = {{4, 0, 1, BAD}, {-1, 0, 1, BAD}, {2, 0, 1, -11}, {0, 6, 1, -12}, {0, -1, 1, -12}, {1, 9, 1, -12}};
        for (int[] v : lays) {
            refused(39, "lay", RefusedTest::rich, x -> x.lay(v[0], v[1], v[2]), v[3]);
        }
        int[][] reads = {{4, 0, 0, 1, BAD}, {-1, 0, 0, 1, BAD}, {0, 3, 0, 1, BAD}, {0, -1, 0, 1, BAD}, {0, 0, 0, 14, BAD}, {0, 0, 0, -1, BAD},
            {0, 0, 3, 1, -20}, {0, 0, 0, 2, -21}, {0, 0, 0, 13, -21}};
        for (int[] v : reads) {
            refused(40, "read", RefusedTest::rich, x -> x.read(v[0], v[1], v[2], v[3]), v[4]);
        }
        refused(40, "read of a sixth SAYING", RefusedTest::full, x -> x.read(0, 1, 0, 1), -20);
        refused(41, "torn() is asked", RefusedTest::rich, VoiceFall::torn, 3);
        refused(42, "count(5)", RefusedTest::rich, x -> x.count(5), BAD);
        refused(42, "count(-1)", RefusedTest::rich, x -> x.count(-1), BAD);
    }
}
