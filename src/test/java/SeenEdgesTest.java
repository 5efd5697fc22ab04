/** Promises 29 to 34, sentence by sentence: nothing SEEN, all six, what can't be, refused calls. */
final class SeenEdgesTest {
    private static final Check check = Check.begin();
    private static final int BAD = VoiceFall.BAD, FULL = VoiceFall.FULL, NONE = VoiceFall.NONE;

    public static void main(String[] args) {
        seeBad();
        seeFull();
        forgetBad();
        forgetLast();
        kindsBad();
        kindsEdges();
        forcesBad();
        forcesEdges();
        fromsBad();
        fromsEdges();
        lookBad();
        lookNone();
        lookFirst();
        changedNothing();
        check.finish(29, 34);
    }

    private static VoiceFall five() {
        return Check.told("plain0 0 1 0;".repeat(5));
    }

    private static void seeBad() {
        check.promise(29, "BAD: no such SAYING");
        VoiceFall none = new VoiceFall();
        check.bad("see(s, 0)", s -> none.see(s, 0), -1, 0, 4, 5, Integer.MIN_VALUE, Integer.MAX_VALUE);
        VoiceFall x = five();
        check.bounds("see(s, 0)", s -> x.see(s, 0), 0, 4);
        check.due("count(0): those that were not refused", x.count(0), 2);
        check.promise(29, "BAD: no such CELL");
        VoiceFall y = five();
        check.cells("see(4, cell)", cell -> y.see(4, cell));
        check.due("count(0): those that were not refused", y.count(0), 4);
    }

    private static void seeFull() {
        VoiceFall x = five();
        check.promise(29, "how many are");
        for (int i = 1; i <= 6; i++) {
            check.due("see " + i, x.see(4, 1), i);
            check.due("count(0)", x.count(0), i);
        }
        check.promise(29, "FULL: SEEN (6)");
        check.due("the 7th", x.see(4, 77), FULL);
        check.due("count(0)", x.count(0), 6);
        check.due("the 7th is not SEEN", x.forces(4), 2);
        check.promise(29, "BAD is the first that fits");
        check.due("the 7th, no CELL", x.see(4, 78), BAD);
        check.due("the 7th, no SAYING", x.see(5, 0), BAD);
        check.promise(29, "there is room again");
        x.forget(5);
        check.due("the 6th again", x.see(4, 77), 6);
        check.due("it is SEEN", x.forces(4), 0);
        check.promise(29, "also a CELL that it does not come to, or that has a WALL");
        VoiceFall y = Check.told("plain 0 0 1 0;wall 33;");
        check.due("see(0, 33)", y.see(0, 33), 1);
        check.due("lands(0, 0) stays", y.lands(0, 0), 1);
    }

    private static void forgetBad() {
        VoiceFall x = five();
        check.promise(30, "of nothing");
        check.due("forget(0)", x.forget(0), 0);
        check.promise(30, "BAD");
        check.bad("forget", x::forget, 1, -1, 6, 7, Integer.MIN_VALUE, Integer.MAX_VALUE);
        for (int i = 0; i < 6; i++) {
            x.see(0, 1);
        }
        check.bad("forget", x::forget, 7, -1, Integer.MIN_VALUE, Integer.MAX_VALUE);
        check.promise(30, "what is refused changes nothing");
        check.due("count(0)", x.count(0), 6);
        check.promise(30, "how many there were");
        check.due("forget(6)", x.forget(6), 6);
        check.due("forget(5)", x.forget(5), 6);
        check.due("forget(6)", x.forget(6), BAD);
        check.due("forget(5)", x.forget(5), 5);
        check.due("forget(0)", x.forget(0), 5);
        check.due("forget(0)", x.forget(0), 0);
        check.due("count(0)", x.count(0), 0);
    }

    private static void forgetLast() {
        VoiceFall x = Check.told("plain 0 0 1 0;");
        check.promise(30, "SEEN are the first n alone");
        x.see(0, 1);
        x.see(0, 2);
        x.see(0, 3);
        check.due("forces(0)", x.forces(0), 0);
        x.forget(1);
        check.due("forces(0): by the first", x.forces(0), 2);
        x.see(0, 1);
        check.due("forces(0): by two", x.forces(0), 2);
        x.forget(0);
        check.due("forces(0): by none", x.forces(0), 1022);
    }

    private static void kindsBad() {
        check.promise(31, "BAD: no such SAYING");
        VoiceFall none = new VoiceFall();
        check.bad("kinds", none::kinds, -1, 0, 4, 5, Integer.MIN_VALUE, Integer.MAX_VALUE);
        VoiceFall x = five();
        check.bounds("kinds", x::kinds, 0, 4);
        VoiceFall one = Check.told("plain 0 0 1 0;");
        check.bounds("kinds", one::kinds, 0, 0);
    }

    private static void kindsEdges() {
        check.promise(31, "nothing is SEEN: all KINDS");
        VoiceFall x = Check.told("plain 0 0 4 0;");
        check.due("kinds(0)", x.kinds(0), 15);
        check.promise(31, "KINDS (bits) by which all is as SEEN: each alone");
        x.alter(0, 3, 5);
        int[] cells = {5, 3, 4, 6};
        for (int kind = 0; kind < 4; kind++) {
            x.forget(0);
            x.see(0, cells[kind]);
            check.due("kinds(0), SEEN in " + cells[kind], x.kinds(0), 1 << kind);
        }
        check.promise(31, "by none");
        x.forget(0);
        x.see(0, 7);
        check.due("kinds(0)", x.kinds(0), 0);
        check.promise(31, "all is as SEEN: of another SAYING, too");
        x = Check.told("sermon 33 0 1 0;plain 30 0 9 1;");
        x.see(1, 32);
        check.due("kinds(0): as a sermon alone it is a WALL", x.kinds(0), 4);
        check.due("kinds(1): all but a proposal are held", x.kinds(1), 7);
    }

    private static void forcesBad() {
        check.promise(32, "BAD: no such SAYING");
        VoiceFall none = new VoiceFall();
        check.bad("forces", none::forces, -1, 0, 4, 5, Integer.MIN_VALUE, Integer.MAX_VALUE);
        VoiceFall x = five();
        check.bounds("forces", x::forces, 0, 4);
    }

    private static void forcesEdges() {
        check.promise(32, "nothing is SEEN: all FORCES (bits 1 to 9)");
        VoiceFall x = Check.told("small 0 0 4 0;");
        check.due("forces(0)", x.forces(0), 1022);
        check.promise(32, "FORCES (bits 1 to 9): the least, the most");
        x.see(0, 1);
        check.due("forces(0): 1 and 2", x.forces(0), 6);
        x.forget(0);
        x.see(0, 5);
        check.due("forces(0): 9", x.forces(0), 512);
        x.alter(0, 0, 0);
        x.forget(0);
        x.see(0, 1);
        check.due("forces(0): 1", x.forces(0), 2);
        check.promise(32, "by none");
        x.see(0, 2);
        check.due("forces(0): SEEN in two CELLS", x.forces(0), 0);
        x.forget(0);
        x.see(0, 70);
        check.due("forces(0): where it can't come to", x.forces(0), 0);
        check.promise(32, "by all: FORCE does not matter");
        x = Check.told("plain 0 2 4 0;");
        x.see(0, 0);
        check.due("forces(0)", x.forces(0), 1022);
        check.promise(32, "all is as SEEN: of another SAYING, too");
        x = Check.told("plain 70 0 2 0;plain 0 0 2 0;");
        x.see(0, 71);
        check.due("forces(1): the other one is not as SEEN", x.forces(1), 0);
        x.alter(0, 3, 1);
        check.due("forces(1)", x.forces(1), 1022);
    }

    private static void fromsBad() {
        check.promise(33, "BAD: no such SAYING");
        VoiceFall none = new VoiceFall();
        check.bad("froms(s, 0)", s -> none.froms(s, 0), -1, 0, 4, 5, Integer.MIN_VALUE, Integer.MAX_VALUE);
        VoiceFall x = five();
        check.bounds("froms(s, 0)", s -> x.froms(s, 0), 0, 4);
        check.bounds("froms(s, 1)", s -> x.froms(s, 1), 0, 4);
        check.promise(33, "BAD: what 0, 1");
        check.bounds("froms(4, what)", what -> x.froms(4, what), 0, 1);
        check.promise(33, "BAD goes ahead of NONE");
        x.see(0, 77);
        check.due("froms(5, 1)", x.froms(5, 1), BAD);
        check.due("froms(0, 2)", x.froms(0, 2), BAD);
    }

    private static void froms(VoiceFall x, int many, int first) {
        check.due("froms(0, 0)", x.froms(0, 0), many);
        check.due("froms(0, 1)", x.froms(0, 1), first);
    }

    private static void fromsEdges() {
        check.promise(33, "nothing is SEEN: all CELLS, the first is 0");
        VoiceFall x = Check.told("plain 33 0 2 0;");
        froms(x, 64, 0);
        check.promise(33, "NONE (1): there are none; how many: 0");
        x.see(0, 0);
        froms(x, 0, NONE);
        x.see(0, 1);
        froms(x, 0, NONE);
        check.promise(33, "one: the first CELL, the last CELL");
        x.forget(0);
        x.see(0, 2);
        froms(x, 1, 0);
        x.alter(0, 2, 2);
        x.forget(0);
        x.see(0, 75);
        froms(x, 1, 77);
        check.promise(33, "several: held at the edge");
        x.forget(0);
        x.see(0, 70);
        froms(x, 3, 70);
        check.promise(33, "CELLS FROM which: one with a WALL, too");
        x = Check.told("plain 33 0 2 0;wall 0;");
        x.see(0, 2);
        froms(x, 1, 0);
    }

    private static void lookBad() {
        check.promise(34, "BAD: no such SAYING");
        VoiceFall none = new VoiceFall();
        check.bad("look(s, 0)", s -> none.look(s, 0), -1, 0, 4, 5, Integer.MIN_VALUE, Integer.MAX_VALUE);
        VoiceFall x = five();
        check.bounds("look(s, 0)", s -> x.look(s, 0), 0, 4);
        check.promise(34, "BAD: what 0, 1");
        check.bounds("look(4, what)", what -> x.look(4, what), 0, 1);
        check.promise(34, "BAD goes ahead of NONE");
        x.see(0, 1);
        x.see(0, 2);
        check.due("look(0, 2)", x.look(0, 2), BAD);
        check.due("look(5, 0)", x.look(5, 0), BAD);
    }

    private static void look(VoiceFall x, int s, int which, int left) {
        check.due("look(" + s + ", 0)", x.look(s, 0), which);
        check.due("look(" + s + ", 1)", x.look(s, 1), left);
    }

    private static void lookNone() {
        check.promise(34, "NONE: where it LANDS does not turn on its FORCE");
        VoiceFall x = Check.told("plain 0 2 4 0;");
        look(x, 0, NONE, NONE);
        check.promise(34, "NONE: one FORCE is left");
        x.alter(0, 2, 0);
        x.see(0, 1);
        look(x, 0, NONE, NONE);
        check.promise(34, "NONE: no FORCE is left");
        x.see(0, 2);
        look(x, 0, NONE, NONE);
        check.promise(34, "NONE: three are left, and stay three");
        x.forget(0);
        x.see(0, 7);
        look(x, 0, NONE, NONE);
    }

    private static void lookFirst() {
        check.promise(34, "fewest are left at the worst: 7, 8, 9 in one CELL");
        VoiceFall x = Check.told("plain 0 0 1 0;");
        look(x, 0, 0, 3);
        check.promise(34, "each FORCE has a CELL of its own, but the last two");
        x.alter(0, 0, 2);
        look(x, 0, 0, 2);
        check.promise(34, "the first of several that tell as much");
        x = Check.told("plain 0 0 1 0;plain 10 0 1 0;sermon 20 0 1 0;plain 27 2 9 1;");
        look(x, 1, 1, 3);
        look(x, 2, 2, 2);
        check.promise(34, "the first, if it tells as much as the SAYING itself");
        x = Check.told("plain 27 2 9 1;sermon 20 0 1 0;");
        look(x, 1, 0, 2);
        check.promise(34, "one behind that tells more goes ahead of one that tells less");
        x = Check.told("plain 3 1 9 1;sermon 20 0 1 0;");
        look(x, 1, 1, 2);
        check.promise(34, "of FORCES by which all is as SEEN, and of no others");
        x = Check.told("plain 3 1 9 1;sermon 20 0 1 0;");
        x.see(0, 13);
        look(x, 1, NONE, NONE);
        x = Check.told("small 0 0 1 0;");
        x.see(0, 2);
        look(x, 0, NONE, NONE);
        check.promise(34, "where it LANDS: in CELL 0, in CELL 77");
        x = Check.told("plain 3 2 1 0;plain 74 0 1 0;");
        look(x, 0, 0, 7);
        look(x, 1, 1, 7);
    }

    private static void changedNothing() {
        VoiceFall x = Check.told("small 12 1 4 3;sermon 33 0 2 0;");
        x.see(0, 32);
        x.kinds(0);
        x.forces(1);
        x.froms(0, 1);
        x.look(1, 0);
        check.promise(34, "what is asked of what was SEEN changes nothing");
        int[][] parts = {{1, 12, 1, 4, 3}, {2, 33, 0, 2, 0}};
        for (int s = 0; s < 2; s++) {
            for (int what = 0; what < 5; what++) {
                check.due("saying(" + s + ", " + what + ")", x.saying(s, what), parts[s][what]);
            }
        }
        check.due("count(0)", x.count(0), 1);
        check.due("rule(2)", x.rule(2), 0);
    }
}
