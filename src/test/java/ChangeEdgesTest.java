/** Promises 11 to 15, sentence by sentence: what is too small, too large, empty, full, refused. */
final class ChangeEdgesTest {
    private static final Check check = Check.begin();
    private static final int BAD = VoiceFall.BAD, FULL = VoiceFall.FULL;
    private static final String TWELVE_WALLS = "wall0;wall1;wall2;wall3;wall4;wall5;wall6;wall7;wall10;wall11;wall12;wall13;";
    private static final String FIVE_SAYINGS = "plain0 0 1 0;small0 0 1 0;sermon0 0 1 0;proposal0 0 1 0;plain0 0 1 0;";

    public static void main(String[] args) {
        alterBounds();
        alterCells();
        alterWhich();
        alterRefused();
        standBounds();
        standAnywhere();
        buildBounds();
        buildFull();
        blowBounds();
        sayBounds();
        sayFull();
        check.finish(11, 15);
    }

    /** KIND, WAY, FORCE, HOUR: each number of its bounds is taken, and what it was is answered. */
    private static void alterBounds() {
        int[] least = {0, 0, 0, 1, 0};
        int[] most = {3, 77, 3, 9, 9};
        String[] words = {"KIND (0 to 3)", "FROM", "WAY (0 to 3)", "FORCE (1 to 9)", "HOUR (0 to 9)"};
        for (int part : new int[] {0, 2, 3, 4}) {
            VoiceFall x = Check.told("plain 0 0 1 0;small 44 1 5 5;plain 0 0 1 0;");
            check.promise(11, words[part] + " becomes v: what it was");
            int was = new int[] {1, 44, 1, 5, 5}[part];
            for (int v = least[part]; v <= most[part]; v++) {
                check.due("alter(1, " + part + ", " + v + ")", x.alter(1, part, v), was);
                check.due("saying(1, " + part + ")", x.saying(1, part), v);
                was = v;
            }
            check.promise(11, "BAD: no such " + words[part]);
            check.bounds("alter(1, " + part + ", v)", v -> x.alter(1, part, v), least[part], most[part]);
        }
    }

    private static void alterCells() {
        VoiceFall x = Check.told("plain 44 0 1 0;wall 7;");
        check.promise(11, "FROM: BAD: no such CELL");
        check.cells("alter(0, 1, v)", v -> x.alter(0, 1, v));
        check.promise(11, "FROM becomes v: what it was");
        int was = x.saying(0, 1);
        for (int place = 0; place < 64; place++) {
            int cell = place / 8 * 10 + place % 8;
            check.due("alter(0, 1, " + cell + ")", x.alter(0, 1, cell), was);
            check.due("saying(0, 1)", x.saying(0, 1), cell);
            was = cell;
        }
    }

    private static void alterWhich() {
        check.promise(11, "BAD: no such SAYING");
        VoiceFall none = new VoiceFall();
        check.bad("alter(s, 0, 0)", s -> none.alter(s, 0, 0), -1, 0, 4, 5, Integer.MIN_VALUE, Integer.MAX_VALUE);
        VoiceFall one = Check.told("plain 44 0 1 0;");
        check.bounds("alter(s, 0, 0)", s -> one.alter(s, 0, 0), 0, 0);
        VoiceFall five = Check.told(FIVE_SAYINGS);
        check.bounds("alter(s, 4, 0)", s -> five.alter(s, 4, 0), 0, 4);
        check.promise(11, "BAD: what 0 to 4");
        check.bounds("alter(0, what, 1)", what -> five.alter(0, what, 1), 0, 4);
    }

    private static void alterRefused() {
        VoiceFall x = Check.told("small 44 1 5 6;plain 0 0 1 0;");
        check.promise(11, "what is refused changes nothing");
        for (int[] call : new int[][] {{0, 0, 4}, {0, 1, 8}, {0, 2, 4}, {0, 3, 0}, {0, 3, 10}, {0, 4, 10}, {0, 5, 1}, {0, -1, 1}, {2, 0, 0}}) {
            check.due("alter", x.alter(call[0], call[1], call[2]), BAD);
        }
        int[] parts = {1, 44, 1, 5, 6};
        int[] others = {0, 0, 0, 1, 0};
        for (int what = 0; what < 5; what++) {
            check.due("saying(0, " + what + ")", x.saying(0, what), parts[what]);
            check.due("saying(1, " + what + ")", x.saying(1, what), others[what]);
        }
        check.promise(11, "of a SAYING, and of no other part");
        x.alter(0, 4, 9);
        for (int what = 0; what < 4; what++) {
            check.due("saying(0, " + what + ")", x.saying(0, what), parts[what]);
            check.due("saying(1, " + what + ")", x.saying(1, what), others[what]);
        }
    }

    private static void standBounds() {
        check.promise(12, "BAD: nobody");
        VoiceFall none = new VoiceFall();
        check.bad("stand(h, 0)", h -> none.stand(h, 0), -1, 0, 3, 4, Integer.MIN_VALUE, Integer.MAX_VALUE);
        check.promise(12, "BAD: no such HEARER");
        VoiceFall one = Check.told("hearer 3;");
        check.bounds("stand(h, 0)", h -> one.stand(h, 0), 0, 0);
        VoiceFall four = Check.told("hearer 1;hearer 2;hearer 3;hearer 4;");
        check.bounds("stand(h, 0)", h -> four.stand(h, 0), 0, 3);
        check.promise(12, "BAD: no such CELL");
        check.cells("stand(3, cell)", cell -> four.stand(3, cell));
        check.promise(12, "what is refused changes nothing");
        VoiceFall x = Check.told("hearer 12;hearer 34;");
        check.bad("stand(1, cell)", cell -> x.stand(1, cell), 8, 78, 80, -1);
        check.due("stand(2, 0)", x.stand(2, 0), BAD);
        check.due("hearer(0)", x.hearer(0), 12);
        check.due("hearer(1)", x.hearer(1), 34);
    }

    private static void standAnywhere() {
        VoiceFall x = Check.told("hearer 12;hearer 34;wall 77;");
        check.promise(12, "A HEARER is AT a CELL: where he was");
        check.due("where he is", x.stand(0, 12), 12);
        check.due("where another one is", x.stand(0, 34), 12);
        check.due("where a WALL is", x.stand(0, 77), 34);
        check.due("hearer(0)", x.hearer(0), 77);
        check.due("hearer(1)", x.hearer(1), 34);
        int was = 77;
        for (int place = 0; place < 64; place++) {
            int cell = place / 8 * 10 + place % 8;
            check.due("stand(0, " + cell + ")", x.stand(0, cell), was);
            was = cell;
        }
    }

    private static void buildBounds() {
        VoiceFall x = new VoiceFall();
        check.promise(13, "BAD: no such CELL");
        check.cells("build(cell, true)", cell -> x.build(cell, true));
        check.cells("build(cell, false)", cell -> x.build(cell, false));
        check.promise(13, "A CELL has a WALL, or not: whether it had");
        for (int place = 0; place < 64; place++) {
            VoiceFall y = new VoiceFall();
            int cell = place / 8 * 10 + place % 8;
            check.due("build(" + cell + ", false) of none", y.build(cell, false), 0);
            check.due("build(" + cell + ", true) of none", y.build(cell, true), 0);
            check.due("build(" + cell + ", true) of one", y.build(cell, true), 1);
            check.due("rule(2)", y.rule(2), 1);
            check.due("wall(" + cell + ")", y.wall(cell), 1);
            check.due("build(" + cell + ", false) of one", y.build(cell, false), 1);
            check.due("wall(" + cell + ")", y.wall(cell), 0);
        }
    }

    private static void buildFull() {
        VoiceFall x = Check.told(TWELVE_WALLS);
        check.promise(13, "FULL: it is to have one, has none, there are 12");
        check.due("the 13th", x.build(77, true), FULL);
        check.due("it changes nothing", x.wall(77), 0);
        check.due("it changes nothing", x.rule(2), 12);
        check.promise(13, "BAD is the first that fits");
        check.bad("the 13th", cell -> x.build(cell, true), 78, 8, 80, -1);
        check.promise(13, "not FULL: it has one");
        check.due("build(13, true)", x.build(13, true), 1);
        check.promise(13, "not FULL: it is to have none");
        check.due("build(77, false)", x.build(77, false), 0);
        check.due("build(13, false)", x.build(13, false), 1);
        check.due("rule(2)", x.rule(2), 11);
        check.promise(13, "not FULL: there are 11");
        check.due("the 12th", x.build(77, true), 0);
        check.due("rule(2)", x.rule(2), 12);
        check.due("the 13th", x.build(13, true), FULL);
        VoiceFall y = new VoiceFall();
        check.promise(13, "12 by build() alone");
        for (int i = 0; i < 13; i++) {
            check.due("build " + i, y.build(10 * (i % 8) + i / 8, true), i < 12 ? 0 : FULL);
        }
    }

    private static void blowBounds() {
        VoiceFall x = new VoiceFall();
        check.promise(14, "WIND of an HOUR becomes v (0 to 4): what it was");
        for (int hour = 0; hour < 10; hour++) {
            int was = 4;
            for (int v = 0; v <= 4; v++) {
                check.due("blow(" + hour + ", " + v + ")", x.blow(hour, v), was);
                check.due("wind(" + hour + ")", x.wind(hour), v);
                was = v;
            }
        }
        check.promise(14, "BAD: no such HOUR");
        check.bounds("blow(hour, 0)", hour -> x.blow(hour, 0), 0, 9);
        check.promise(14, "BAD: v (0 to 4)");
        check.bounds("blow(0, v)", v -> x.blow(0, v), 0, 4);
        check.bounds("blow(9, v)", v -> x.blow(9, v), 0, 4);
        check.promise(14, "what is refused changes nothing");
        x.blow(0, 1);
        x.blow(9, 2);
        check.bad("blow(0, v)", v -> x.blow(0, v), 5, -1);
        check.bad("blow(hour, 3)", hour -> x.blow(hour, 3), 10, -1);
        check.due("wind(0)", x.wind(0), 1);
        check.due("wind(9)", x.wind(9), 2);
        check.due("rule(3)", x.rule(3), 513);
    }

    private static void sayBounds() {
        check.promise(15, "BAD: no such CELL");
        check.cells("say(from, 0, 1)", from -> new VoiceFall().say(from, 0, 1));
        check.promise(15, "BAD: WAY 0 to 3");
        check.bounds("say(0, way, 1)", way -> new VoiceFall().say(0, way, 1), 0, 3);
        check.promise(15, "BAD: FORCE 1 to 9");
        check.bounds("say(0, 0, force)", force -> new VoiceFall().say(0, 0, force), 1, 9);
        VoiceFall x = new VoiceFall();
        check.promise(15, "what is refused changes nothing");
        x.say(8, 0, 1);
        x.say(0, 4, 1);
        x.say(0, 0, 10);
        check.due("rule(0)", x.rule(0), 0);
        check.due("count(4)", x.count(4), 0);
        check.promise(15, "A SAYING more (plain, HOUR 0): its number");
        for (int s = 0; s < 5; s++) {
            check.due("say", x.say(77, 3, 9), s);
            int[] parts = {0, 77, 3, 9, 0, 9};
            for (int what = 0; what < 6; what++) {
                check.due("saying(" + s + ", " + what + ")", x.saying(s, what), parts[what]);
            }
            check.due("rule(0)", x.rule(0), s + 1);
        }
    }

    private static void sayFull() {
        VoiceFall x = Check.told(FIVE_SAYINGS);
        check.promise(15, "FULL: 5 at most");
        check.due("the 6th", x.say(77, 3, 9), FULL);
        check.due("it changes nothing", x.rule(0), 5);
        check.due("it changes nothing", x.count(4), 5);
        check.promise(15, "BAD is the first that fits");
        check.due("the 6th, no CELL", x.say(78, 3, 9), BAD);
        check.due("the 6th, no WAY", x.say(77, 4, 9), BAD);
        check.due("the 6th, no FORCE", x.say(77, 3, 0), BAD);
        check.promise(15, "plain, HOUR 0, also where another one was");
        x = Check.told("proposal 1 1 1 9;");
        x.keep(0);
        x.say(2, 2, 2);
        x.alter(1, 0, 2);
        x.alter(1, 4, 7);
        x.back(0);
        check.due("say", x.say(3, 3, 3), 1);
        check.due("KIND", x.saying(1, 0), 0);
        check.due("HOUR", x.saying(1, 4), 0);
        check.due("the one ahead stays", x.saying(0, 4), 9);
        x = Check.told("proposal 1 1 1 9;");
        x.text();
        check.due("say, behind a text that told none", x.say(3, 3, 3), 0);
        check.due("KIND", x.saying(0, 0), 0);
        check.due("HOUR", x.saying(0, 4), 0);
    }
}
