/** Promises 36 to 42, sentence by sentence: images and sheets, what the machine finds, refused calls. */
final class SheetEdgesTest {
    private static final Check check = Check.begin();
    private static final int BAD = VoiceFall.BAD, STATE = VoiceFall.STATE, NONE = VoiceFall.NONE;

    public static void main(String[] args) {
        keepBad();
        keepAgain();
        backBad();
        backEdges();
        imageHoldsAll();
        sheetBad();
        sheetEdges();
        layFaults();
        layLowestBits();
        readBad();
        readNone();
        readMachine();
        readOrderOfFaults();
        readRefused();
        readFull();
        readFirstMet();
        tornLatest();
        countBad();
        countEdges();
        check.finish(36, 42);
    }

    private static void keepBad() {
        VoiceFall x = new VoiceFall();
        check.promise(36, "BAD: IMAGE k (0, 1)");
        check.bounds("keep", x::keep, 0, 1);
        check.due("count(1): those that were not refused", x.count(1), 2);
    }

    private static void keepAgain() {
        VoiceFall x = new VoiceFall();
        check.promise(36, "whether there was one (1, 0)");
        check.due("keep(1)", x.keep(1), 0);
        check.due("keep(1)", x.keep(1), 1);
        check.due("keep(0)", x.keep(0), 0);
        check.due("keep(0)", x.keep(0), 1);
        check.promise(36, "IMAGES stay when a text is refused, and are gone when one is taken");
        Check.tell(x, "?");
        check.due("keep(1)", x.keep(1), 1);
        Check.tell(x, "wall 1;");
        check.due("keep(1)", x.keep(1), 0);
        check.due("back(0)", x.back(0), STATE);
        check.promise(36, "IMAGE k is what is when it is kept: the latest");
        x.say(0, 0, 1);
        x.keep(1);
        x.say(0, 0, 1);
        x.keep(1);
        x.say(0, 0, 1);
        check.due("back(1)", x.back(1), 2);
    }

    private static void backBad() {
        VoiceFall x = Check.told("plain 0 0 1 0;");
        check.promise(37, "STATE: there is none");
        check.due("back(0)", x.back(0), STATE);
        check.due("back(1)", x.back(1), STATE);
        check.due("all stays", x.rule(0), 1);
        x.keep(0);
        check.due("back(1), there is IMAGE 0", x.back(1), STATE);
        check.promise(37, "BAD: IMAGE k (0, 1)");
        check.bounds("back", x::back, 0, 1);
        VoiceFall none = new VoiceFall();
        check.promise(37, "BAD goes ahead of STATE");
        check.bad("back", none::back, -1, 2, Integer.MIN_VALUE, Integer.MAX_VALUE);
    }

    private static void backEdges() {
        VoiceFall x = new VoiceFall();
        check.promise(37, "All is as IMAGE k: SAYINGS: none, and five");
        x.keep(0);
        for (int s = 0; s < 5; s++) {
            x.say(11 * s, 1, 9);
        }
        x.keep(1);
        check.due("back(0)", x.back(0), 0);
        check.due("rule(0)", x.rule(0), 0);
        check.due("count(4)", x.count(4), 0);
        check.due("back(1)", x.back(1), 5);
        check.due("saying(4, 1)", x.saying(4, 1), 44);
        check.due("count(4)", x.count(4), 45);
        check.promise(37, "an IMAGE stays as it is, however often one goes back");
        for (int i = 0; i < 3; i++) {
            x.alter(0, 3, 1 + i);
            x.build(70 + i, true);
            check.due("back(1)", x.back(1), 5);
            check.due("saying(0, 3)", x.saying(0, 3), 9);
            check.due("rule(2)", x.rule(2), 0);
        }
        check.promise(37, "IMAGES themselves, THE TAPE, SHEETS, faults are no part of it");
        x.sheet(0, 0, 7);
        x.feed(32);
        x.read(0, 1, 0, 1);
        x.back(0);
        check.due("count(1)", x.count(1), 2);
        check.due("count(2)", x.count(2), 1);
        check.due("count(3)", x.count(3), 7);
        check.due("torn()", x.torn(), 3);
        Check.feed(x, "?");
        x.text();
        x.back(1);
        check.due("fault()", x.fault(), 1);
    }

    private static void imageHoldsAll() {
        VoiceFall x = Check.told("small 12 1 4 3;sermon 33 0 2 9;wall 31;wall 77;wind 2 0;wind 9 3;hearer 22;hearer 0;");
        x.see(0, 32);
        x.see(1, 24);
        x.keep(0);
        for (int s = 0; s < 2; s++) {
            x.alter(s, 0, 3);
            x.alter(s, 1, 66);
            x.alter(s, 2, 3);
            x.alter(s, 3, 9);
            x.alter(s, 4, 5);
            x.stand(s, 55);
        }
        x.build(31, false);
        x.build(0, true);
        x.blow(2, 4);
        x.blow(9, 4);
        x.blow(0, 1);
        x.forget(0);
        x.see(1, 0);
        x.back(0);
        check.promise(37, "All is as IMAGE k: SAYINGS");
        int[][] parts = {{1, 12, 1, 4, 3}, {2, 33, 0, 2, 9}};
        for (int s = 0; s < 2; s++) {
            for (int what = 0; what < 5; what++) {
                check.due("saying(" + s + ", " + what + ")", x.saying(s, what), parts[s][what]);
            }
        }
        check.promise(37, "All is as IMAGE k: WALLS");
        check.due("rule(2)", x.rule(2), 2);
        check.due("wall(31)", x.wall(31), 1);
        check.due("wall(77)", x.wall(77), 1);
        check.promise(37, "All is as IMAGE k: WINDS");
        check.due("rule(3)", x.rule(3), 4 + 512);
        check.due("wind(2)", x.wind(2), 0);
        check.due("wind(9)", x.wind(9), 3);
        check.promise(37, "All is as IMAGE k: HEARERS");
        check.due("hearer(0)", x.hearer(0), 22);
        check.due("hearer(1)", x.hearer(1), 0);
        check.promise(37, "All is as IMAGE k: what was SEEN");
        check.due("count(0)", x.count(0), 2);
        check.due("forces(0): 3 and 4", x.forces(0), 24);
        x.forget(1);
        check.due("the first of them", x.forces(0), 24);
    }

    private static void sheetBad() {
        VoiceFall x = new VoiceFall();
        check.promise(38, "BAD: no such SHEET");
        check.bounds("sheet(k, 0, 1)", k -> x.sheet(k, 0, 1), 0, 3);
        check.promise(38, "BAD: lane 0 to 2");
        check.bounds("sheet(0, lane, 1)", lane -> x.sheet(0, lane, 1), 0, 2);
        check.promise(38, "BAD: also n above 40");
        check.bad("sheet(0, 0, n)", n -> x.sheet(0, 0, n), 41, 42, 256, 65536, Integer.MAX_VALUE);
        check.promise(38, "-10 - 4: SIZE (below 0)");
        for (int n : new int[] {-1, -2, -40, -41, Integer.MIN_VALUE}) {
            for (int lane = 0; lane < 3; lane++) {
                check.due("sheet(0, " + lane + ", " + n + ")", x.sheet(0, lane, n), -14);
            }
        }
        check.promise(38, "BAD goes ahead of SIZE");
        check.bad("sheet(k, 0, -1)", k -> x.sheet(k, 0, -1), -1, 4);
        check.bad("sheet(0, lane, -1)", lane -> x.sheet(0, lane, -1), -1, 3);
    }

    private static void sheetEdges() {
        VoiceFall x = new VoiceFall();
        check.promise(38, "0 to 40 CELLS: 1");
        for (int n = 0; n <= 40; n++) {
            check.due("sheet(0, " + n % 3 + ", " + n + ")", x.sheet(0, n % 3, n), 1);
            check.due("count(3)", x.count(3), n);
            check.due("lay behind the last", x.lay(0, n, 1), -12);
            check.due("lay at the last", x.lay(0, n - 1, 1), n == 0 ? -12 : 1);
        }
        check.promise(38, "what is refused changes nothing: the row stays");
        x.sheet(0, 2, 3);
        x.lay(0, 2, 5);
        check.due("n 41", x.sheet(0, 0, 41), BAD);
        check.due("n -1", x.sheet(0, 0, -1), -14);
        check.due("lane 3", x.sheet(0, 3, 1), BAD);
        check.due("count(3)", x.count(3), 3);
        check.due("read by its lane", x.read(0, 2, 0, 1), 1);
        check.due("FORCE", x.saying(0, 3), 5);
        check.promise(38, "nothing stays nothing");
        check.due("n -1", x.sheet(3, 0, -1), -14);
        check.due("lay(3, 0, 0)", x.lay(3, 0, 0), -11);
        check.promise(38, "a new row of CELLS 0, also in place of one that was laid");
        x.sheet(0, 2, 3);
        check.due("FORCE 0 is refused", x.read(0, 2, 0, 1), -20);
        x.lay(0, 2, 1);
        check.due("FROM 0, WAY 0", x.read(0, 2, 0, 1), 1);
        check.due("FROM", x.saying(1, 1), 0);
        check.due("WAY", x.saying(1, 2), 0);
        x.sheet(1, 0, 9);
        x.lay(1, 8, 7);
        x.sheet(1, 0, 3);
        x.sheet(1, 0, 9);
        check.due("beyond a shorter row", x.read(1, 0, 6, 1), -20);
        check.promise(38, "SHEETS 0 to 3 are each of its own");
        for (int k = 0; k < 4; k++) {
            x.sheet(k, k % 3, k);
        }
        for (int k = 0; k < 4; k++) {
            check.due("the last of SHEET " + k, x.lay(k, k - 1, 0), k == 0 ? -12 : 1);
            check.due("behind it", x.lay(k, k, 0), -12);
        }
    }

    private static void layFaults() {
        VoiceFall x = new VoiceFall();
        check.promise(39, "-10 less the FAULT: NULL");
        for (int i : new int[] {0, 1, -1, 40, Integer.MIN_VALUE, Integer.MAX_VALUE}) {
            check.due("lay(1, " + i + ", 0)", x.lay(1, i, 0), -11);
        }
        check.promise(39, "BAD: k");
        check.bad("lay(k, 0, 0)", k -> x.lay(k, 0, 0), -1, 4, Integer.MIN_VALUE, Integer.MAX_VALUE);
        check.promise(39, "-10 less the FAULT: INDEX");
        x.sheet(1, 0, 5);
        for (int i : new int[] {-1, 5, 6, 39, 40, 41, Integer.MIN_VALUE, Integer.MAX_VALUE}) {
            check.due("lay(1, " + i + ", 0)", x.lay(1, i, 0), -12);
        }
        check.due("lay(1, 0, 0)", x.lay(1, 0, 0), 1);
        check.due("lay(1, 4, 0)", x.lay(1, 4, 0), 1);
        x.sheet(1, 0, 0);
        check.due("a row of none", x.lay(1, 0, 0), -12);
        x.sheet(1, 0, 40);
        check.due("the most", x.lay(1, 39, 0), 1);
        check.due("beyond the most", x.lay(1, 40, 0), -12);
        check.promise(39, "a FAULT of lay() is not one of read()");
        check.due("torn()", x.torn(), 0);
    }

    /** FORCE is laid as v: due is the FORCE that is read, or 0 if say() refuses it. */
    private static void laid(int lane, int v, int due) {
        VoiceFall x = new VoiceFall();
        x.sheet(0, lane, 3);
        check.due("lay(0, 2, " + v + ") in lane " + lane, x.lay(0, 2, v), 1);
        check.due("read", x.read(0, lane, 0, 1), due == 0 ? -20 : 1);
        check.due("FORCE of " + v + " in lane " + lane, x.saying(0, 3), due == 0 ? BAD : due);
    }

    private static void layLowestBits() {
        check.promise(39, "CELL i of a SHEET becomes v (its lowest bits): BYTES");
        laid(0, 9, 9);
        laid(0, 256 + 9, 9);
        laid(0, 65536 + 9, 9);
        laid(0, -256 + 9, 9);
        laid(0, Integer.MIN_VALUE + 9, 9);
        laid(0, 128 + 9, 0);
        laid(0, 255, 0);
        laid(0, 127, 0);
        check.promise(39, "CELL i of a SHEET becomes v (its lowest bits): SHORTS");
        laid(1, 9, 9);
        laid(1, 256 + 9, 0);
        laid(1, 65536 + 9, 9);
        laid(1, -65536 + 9, 9);
        laid(1, Integer.MIN_VALUE + 9, 9);
        laid(1, 32768 + 9, 0);
        laid(1, 65535, 0);
        check.promise(39, "CELL i of a SHEET becomes v (its lowest bits): INTS");
        laid(2, 9, 9);
        laid(2, 256 + 9, 0);
        laid(2, 65536 + 9, 0);
        laid(2, Integer.MIN_VALUE + 9, 0);
        laid(2, Integer.MAX_VALUE, 0);
        laid(2, -1, 0);
        check.promise(39, "another CELL stays");
        VoiceFall x = new VoiceFall();
        x.sheet(0, 0, 4);
        x.lay(0, 0, 12);
        x.lay(0, 1, 3);
        x.lay(0, 2, 4);
        x.lay(0, 3, 99);
        x.lay(0, 4, 99);
        x.read(0, 0, 0, 1);
        check.due("FROM", x.saying(0, 1), 12);
        check.due("WAY", x.saying(0, 2), 3);
        check.due("FORCE", x.saying(0, 3), 4);
    }

    private static VoiceFall rows(int lane, int size, int... cells) {
        VoiceFall x = new VoiceFall();
        x.sheet(2, lane, size);
        for (int i = 0; i < cells.length; i++) {
            x.lay(2, i, cells[i]);
        }
        return x;
    }

    private static void readBad() {
        VoiceFall x = rows(0, 3, 11, 0, 1);
        check.promise(40, "BAD: k");
        check.bounds("read(k, 0, 0, 0)", k -> x.read(k, 0, 0, 0), 0, 3);
        check.promise(40, "BAD: lane");
        check.bounds("read(2, lane, 0, 0)", lane -> x.read(2, lane, 0, 0), 0, 2);
        check.promise(40, "BAD: n (0 to 13)");
        check.bounds("read(2, 1, 0, n)", n -> x.read(2, 1, 0, n), 0, 13);
        check.promise(40, "BAD goes ahead of what the machine finds, and of what say() refuses");
        check.due("nothing, n 14", x.read(1, 0, 0, 14), BAD);
        check.due("no such lane", x.read(2, 3, 0, 1), BAD);
        check.due("n -1", x.read(2, 0, 0, -1), BAD);
        check.promise(40, "what is refused changes nothing");
        check.due("rule(0)", x.rule(0), 0);
        check.promise(40, "f is any number: what is no CELL the machine finds");
        for (int f : new int[] {-1, 1, 3, 40, Integer.MIN_VALUE, Integer.MAX_VALUE, Integer.MAX_VALUE - 1, Integer.MAX_VALUE - 2}) {
            check.due("read(2, 0, " + f + ", 13)", x.read(2, 0, f, 13), 0);
            check.due("torn()", x.torn(), 2);
        }
    }

    private static void readNone() {
        VoiceFall x = rows(0, 3, 11, 0, 1);
        check.promise(40, "n 0: none came");
        check.due("read(2, 0, 0, 0)", x.read(2, 0, 0, 0), 0);
        check.due("rule(0)", x.rule(0), 0);
        check.due("read(2, 0, 3, 0)", x.read(2, 0, 3, 0), 0);
        check.due("read(2, 0, -1, 0)", x.read(2, 0, -1, 0), 0);
        check.promise(41, "n 0: nothing is read, so that the machine finds nothing");
        check.due("torn()", x.torn(), 0);
        x.read(2, 0, 3, 1);
        check.due("torn() ahead", x.torn(), 2);
        x.read(2, 0, 3, 0);
        check.due("torn()", x.torn(), 0);
    }

    private static void readMachine() {
        check.promise(40, "three CELLS each from CELL f on: as many as there are");
        VoiceFall x = rows(1, 15, 11, 0, 1, 22, 1, 2, 33, 2, 3, 44, 3, 4, 55, 0, 5);
        check.due("five of five", x.read(2, 1, 0, 5), 5);
        for (int s = 0; s < 5; s++) {
            int[] parts = {0, 11 * (s + 1), s % 4, s + 1, 0};
            for (int what = 0; what < 5; what++) {
                check.due("saying(" + s + ", " + what + ")", x.saying(s, what), parts[what]);
            }
        }
        check.promise(40, "What the machine refuses: those that were whole ahead came");
        for (int size = 0; size <= 12; size++) {
            for (int n = 0; n <= 5; n++) {
                VoiceFall y = rows(2, size, 11, 0, 1, 22, 1, 2, 33, 2, 3, 44, 3, 4);
                int whole = Math.min(n, size / 3);
                check.due(n + " of " + size + " CELLS", y.read(2, 2, 0, n), whole);
                check.due("rule(0)", y.rule(0), whole);
                check.due("torn()", y.torn(), n > whole ? 2 : 0);
            }
        }
        check.promise(40, "from CELL f on: the last three, and one on");
        VoiceFall y = rows(0, 40);
        y.lay(2, 37, 77);
        y.lay(2, 38, 3);
        y.lay(2, 39, 9);
        check.due("f 37", y.read(2, 0, 37, 1), 1);
        check.due("FROM", y.saying(0, 1), 77);
        check.due("f 37, n 2", y.read(2, 0, 37, 2), 1);
        check.due("torn()", y.torn(), 2);
        check.due("f 38", y.read(2, 0, 38, 1), 0);
        check.due("f 39", y.read(2, 0, 39, 1), 0);
        check.due("f 40", y.read(2, 0, 40, 1), 0);
        check.due("rule(0)", y.rule(0), 2);
    }

    private static void readOrderOfFaults() {
        VoiceFall x = rows(0, 3, 11, 0, 1);
        check.promise(40, "nothing is NULL, whichever lane, whichever CELL");
        for (int lane = 0; lane < 3; lane++) {
            check.due("read(0, ..)", x.read(0, lane, -1, 1), 0);
            check.due("torn()", x.torn(), 1);
        }
        check.promise(40, "another lane is CAST, whichever CELL");
        for (int lane = 1; lane < 3; lane++) {
            check.due("read(2, " + lane + ", 0, 1)", x.read(2, lane, 0, 1), 0);
            check.due("torn()", x.torn(), 3);
            check.due("read(2, " + lane + ", 99, 1)", x.read(2, lane, 99, 1), 0);
            check.due("torn()", x.torn(), 3);
        }
        check.promise(40, "a row of none is INDEX");
        x.sheet(3, 1, 0);
        check.due("read(3, 1, 0, 1)", x.read(3, 1, 0, 1), 0);
        check.due("torn()", x.torn(), 2);
        check.due("read(3, 0, 0, 1)", x.read(3, 0, 0, 1), 0);
        check.due("torn()", x.torn(), 3);
        check.due("rule(0): none came", x.rule(0), 0);
    }

    private static void readRefused() {
        int[][] wrong = {{8, 0, 1}, {78, 0, 1}, {80, 0, 1}, {-1, 0, 1}, {0, 4, 1}, {0, -1, 1}, {0, 0, 0}, {0, 0, 10}};
        for (int[] w : wrong) {
            check.promise(40, "-20 less i: the i-th, whole, is refused by say(): BAD");
            for (int i = 0; i < 4; i++) {
                VoiceFall x = rows(0, 12, 11, 0, 1, 22, 1, 2, 33, 2, 3, 44, 3, 4);
                x.say(5, 1, 5);
                for (int part = 0; part < 3; part++) {
                    x.lay(2, 3 * i + part, w[part]);
                }
                check.due("read, the " + i + "-th is wrong", x.read(2, 0, 0, 4), -20 - i);
                check.promise(40, "then none came");
                check.due("rule(0)", x.rule(0), 1);
                check.due("count(4)", x.count(4), 5);
                check.due("up to it", x.read(2, 0, 0, i), i);
                check.due("rule(0)", x.rule(0), 1 + i);
            }
        }
    }

    private static void readFull() {
        check.promise(40, "-20 less i: refused by say() (in whichever way): FULL");
        for (int there = 0; there <= 5; there++) {
            VoiceFall x = rows(0, 39, 11, 0, 1, 22, 1, 2, 33, 2, 3, 44, 3, 4, 55, 0, 5, 66, 1, 6);
            for (int s = 0; s < there; s++) {
                x.say(7, 1, 9);
            }
            check.due("13 with " + there + " there", x.read(2, 0, 0, 13), -20 - (5 - there));
            check.promise(40, "then none came");
            check.due("rule(0)", x.rule(0), there);
            check.due("as many as there is room for", x.read(2, 0, 0, 5 - there), 5 - there);
            check.due("rule(0)", x.rule(0), 5);
            check.due("one more", x.read(2, 0, 0, 1), -20);
            check.due("rule(0)", x.rule(0), 5);
        }
    }

    private static void readFirstMet() {
        check.promise(40, "the first met: what say() refuses, ahead of what the machine refuses");
        VoiceFall x = rows(0, 8, 11, 0, 1, 22, 4, 2, 33, 2);
        check.due("the second is refused", x.read(2, 0, 0, 3), -21);
        check.due("rule(0)", x.rule(0), 0);
        check.promise(40, "the first met: what the machine refuses, ahead of what say() would refuse");
        x = rows(0, 5, 11, 0, 1, 88, 9);
        check.due("the second is not whole", x.read(2, 0, 0, 2), 1);
        check.due("rule(0)", x.rule(0), 1);
        check.promise(40, "whole: what is not whole is not refused by say(), FULL or not");
        for (int s = 1; s < 5; s++) {
            x.say(0, 0, 1);
        }
        check.due("f 3", x.read(2, 0, 3, 1), 0);
        check.due("torn()", x.torn(), 2);
        check.due("f 0: FULL", x.read(2, 0, 0, 1), -20);
    }

    private static void tornLatest() {
        VoiceFall x = rows(0, 5, 11, 0, 1, 99, 0);
        check.promise(41, "ahead of all read(): 0");
        check.due("torn()", x.torn(), 0);
        check.promise(41, "The FAULT of the latest read(): each");
        x.read(0, 0, 0, 1);
        check.due("NULL", x.torn(), 1);
        x.read(2, 0, 3, 1);
        check.due("INDEX", x.torn(), 2);
        x.read(2, 1, 0, 1);
        check.due("CAST", x.torn(), 3);
        check.promise(41, "that came to an end: not one that is BAD");
        x.read(4, 0, 0, 1);
        x.read(2, 3, 0, 1);
        x.read(2, 0, 0, 14);
        check.due("torn()", x.torn(), 3);
        check.promise(41, "that came to an end: not one that say() refuses");
        x.lay(2, 2, 0);
        check.due("read", x.read(2, 0, 0, 1), -20);
        check.due("torn()", x.torn(), 3);
        check.promise(41, "of read() alone: not of sheet(), lay(), text()");
        x.sheet(2, 0, -1);
        x.lay(3, 0, 0);
        x.lay(2, 5, 0);
        Check.tell(x, "?");
        x.text();
        check.due("torn()", x.torn(), 3);
        check.promise(41, "0: the machine found nothing");
        x.lay(2, 2, 1);
        check.due("read", x.read(2, 0, 0, 1), 1);
        check.due("torn()", x.torn(), 0);
        check.promise(41, "of one by which some came");
        check.due("read", x.read(2, 0, 0, 2), 1);
        check.due("torn()", x.torn(), 2);
        check.due("and again", x.torn(), 2);
    }

    private static void countBad() {
        VoiceFall x = Check.told("plain 0 0 1 0;");
        check.promise(42, "BAD");
        check.bounds("count", x::count, 0, 4);
        VoiceFall none = new VoiceFall();
        check.bounds("count", none::count, 0, 4);
    }

    private static void countEdges() {
        VoiceFall x = new VoiceFall();
        check.promise(42, "of nothing");
        int[] counts = {0, 0, 0, NONE, 0};
        for (int what = 0; what < 5; what++) {
            check.due("count(" + what + ")", x.count(what), counts[what]);
        }
        check.promise(42, "IMAGES: 0 to 2");
        x.keep(1);
        check.due("one", x.count(1), 1);
        x.keep(0);
        check.due("both", x.count(1), 2);
        x.keep(0);
        check.due("both", x.count(1), 2);
        check.promise(42, "all FORCES: 45 at most");
        for (int s = 0; s < 5; s++) {
            x.say(0, 0, 9);
            check.due("count(4)", x.count(4), 9 * (s + 1));
        }
        x.alter(4, 3, 1);
        check.due("count(4)", x.count(4), 37);
        check.promise(42, "SEEN: 6 at most");
        for (int i = 0; i < 8; i++) {
            x.see(0, 0);
        }
        check.due("count(0)", x.count(0), 6);
        check.promise(42, "bytes on THE TAPE: 160 at most");
        Check.feed(x, "x".repeat(170));
        check.due("count(2)", x.count(2), 160);
        check.promise(42, "CELLS of SHEET 0 (NONE: nothing)");
        x.sheet(1, 0, 9);
        check.due("of SHEET 0, not 1", x.count(3), NONE);
        x.sheet(0, 1, 0);
        check.due("a row of none is something", x.count(3), 0);
        x.sheet(0, 2, 40);
        check.due("the most", x.count(3), 40);
    }
}
