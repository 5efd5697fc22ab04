/** Promises 20 to 26, sentence by sentence: what is best, where there is none, where it is the first or the last. */
final class BestEdgesTest {
    private static final Check check = Check.begin();
    private static final int BAD = VoiceFall.BAD, FULL = VoiceFall.FULL, NONE = VoiceFall.NONE;
    private static final String TWELVE_WALLS = "wall0;wall1;wall2;wall3;wall4;wall5;wall6;wall7;wall10;wall11;wall12;wall13;";
    private static final String ELEVEN_WALLS = "wall0;wall1;wall2;wall3;wall4;wall5;wall6;wall7;wall10;wall11;wall12;";

    public static void main(String[] args) {
        mostBad();
        mostFirst();
        aimBad();
        aimLeast();
        aimNone();
        reachBad();
        reachEdges();
        screenBad();
        screenNone();
        screenFirst();
        screenAndTwelve();
        walkBad();
        walkHours();
        walkBegins();
        walkAndLandings();
        walksBad();
        walksEdges();
        whenBad();
        whenEdges();
        changedNothing();
        check.finish(20, 26);
    }

    private static void mostBad() {
        VoiceFall x = Check.told("plain 0 0 1 0;");
        check.promise(20, "BAD");
        check.bounds("most", x::most, 0, 1);
        VoiceFall none = new VoiceFall();
        check.bounds("most", none::most, 0, 1);
        check.promise(20, "where nothing LANDS: the first CELL, 0");
        check.due("most(0)", none.most(0), 0);
        check.due("most(1)", none.most(1), 0);
        check.promise(20, "NONE: all CELLS have one (12 at most have: never)");
        x = Check.told(TWELVE_WALLS);
        check.due("most(0)", x.most(0), 14);
        check.due("most(1)", x.most(1), 0);
    }

    private static void mostFirst() {
        check.promise(20, "of several the first CELL");
        VoiceFall x = Check.told("plain 77 0 1 0;plain 70 2 1 0;plain 7 0 1 0;");
        check.due("most(0)", x.most(0), 7);
        check.due("most(1)", x.most(1), 1);
        x.alter(2, 1, 76);
        check.due("most(0): the last CELL has two", x.most(0), 77);
        check.due("most(1)", x.most(1), 2);
        check.promise(20, "all five");
        x = Check.told("plain76 0 1 0;".repeat(5));
        check.due("most(0)", x.most(0), 77);
        check.due("most(1)", x.most(1), 5);
        check.promise(20, "without a WALL ahead of THE DAY");
        x = Check.told("proposal 0 0 1 0;proposal 0 0 1 0;plain 70 0 1 0;wall 2;");
        check.due("most(0): two in a WALL do not count", x.most(0), 71);
        check.due("most(1)", x.most(1), 1);
        x = Check.told("proposal 0 0 1 0;wall 0;wall 2;");
        check.due("most(0): one in a WALL alone", x.most(0), 1);
        check.due("most(1): one in a WALL alone", x.most(1), 0);
        x = Check.told("sermon 50 0 1 0;");
        check.due("most(0): the WALL that a sermon is", x.most(0), 50);
        check.due("most(1)", x.most(1), 1);
    }

    private static void aimBad() {
        check.promise(21, "BAD: no such SAYING");
        VoiceFall none = new VoiceFall();
        check.bad("aim(s, 0)", s -> none.aim(s, 0), -1, 0, 4, 5, Integer.MIN_VALUE, Integer.MAX_VALUE);
        VoiceFall x = Check.told("plain0 0 1 0;".repeat(5));
        check.bounds("aim(s, 0)", s -> x.aim(s, 0), 0, 4);
        check.promise(21, "BAD: no such CELL");
        check.cells("aim(4, cell)", cell -> x.aim(4, cell));
        check.promise(21, "BAD is the first that fits");
        check.due("aim(5, 8)", x.aim(5, 8), BAD);
        check.due("aim(5, 33): it comes there by none", x.aim(5, 33), BAD);
    }

    private static void aimLeast() {
        check.promise(21, "the least FORCE: 1 to 9");
        VoiceFall x = Check.told("plain 0 3 9 0;");
        for (int y = 1; y < 8; y++) {
            check.due("aim(0, " + y + ")", x.aim(0, y), 10 * y);
            check.due("aim(0, " + 10 * y + ")", x.aim(0, 10 * y), 10 * y + 1);
        }
        x.alter(0, 0, 2);
        check.due("a sermon: by 8", x.aim(0, 7), 80);
        x.alter(0, 0, 1);
        check.due("a small one: by 9", x.aim(0, 5), 90);
        check.due("a small one: beyond 9", x.aim(0, 6), NONE);
        check.promise(21, "of several the first WAY");
        check.due("a corner: held south and west", x.aim(0, 0), 12);
        x.alter(0, 1, 77);
        check.due("a corner: held north and east", x.aim(0, 77), 10);
        x.alter(0, 0, 2);
        x.alter(0, 1, 33);
        check.due("a sermon by 1, by any WAY", x.aim(0, 33), 10);
        x = Check.told("plain 33 2 5 0;wall 34;wall 43;wall 32;");
        check.due("held north, east, south", x.aim(0, 33), 10);
        x.build(34, false);
        check.due("held east, south", x.aim(0, 33), 11);
        check.promise(21, "the last WAY");
        check.due("west", x.aim(0, 23), 13);
        check.promise(21, "the least FORCE goes ahead of the first WAY");
        x = Check.told("plain 0 2 5 0;wind 0 0;");
        check.due("north by 2 with no WIND, south by 1 with one", x.aim(0, 1), 12);
    }

    private static void aimNone() {
        check.promise(21, "NONE: by none");
        VoiceFall x = Check.told("plain 33 0 1 0;wall 35;");
        check.due("off the lines", x.aim(0, 44), NONE);
        check.due("in a WALL", x.aim(0, 35), NONE);
        check.due("behind a WALL", x.aim(0, 36), NONE);
        check.due("where it is FROM, held by nothing", x.aim(0, 33), NONE);
        check.promise(21, "a proposal comes into a WALL, and behind it");
        x.alter(0, 0, 3);
        check.due("in a WALL", x.aim(0, 35), 10);
        check.due("one CELL on", x.aim(0, 34), NONE);
        check.due("at the end", x.aim(0, 37), 30);
        check.promise(21, "all else as it is");
        x = Check.told("sermon 35 0 1 0;plain 33 0 1 1;wind 3 1;");
        check.due("behind the WALL of a sermon", x.aim(1, 36), NONE);
        x.alter(1, 4, 0);
        x.alter(0, 4, 1);
        check.due("ahead of it", x.aim(1, 36), 30);
    }

    private static void reachBad() {
        check.promise(22, "BAD: no such SAYING");
        VoiceFall none = new VoiceFall();
        check.bad("reach", none::reach, -1, 0, 4, 5, Integer.MIN_VALUE, Integer.MAX_VALUE);
        VoiceFall one = Check.told("plain 0 0 1 0;");
        check.bounds("reach", one::reach, 0, 0);
        VoiceFall five = Check.told("plain0 0 1 0;".repeat(5));
        check.bounds("reach", five::reach, 0, 4);
    }

    private static void reachEdges() {
        check.promise(22, "by any FORCE, any WAY: in a corner, in the midst");
        VoiceFall x = Check.told("plain 0 0 1 0;");
        check.due("plain, 0", x.reach(0), 15);
        x.alter(0, 1, 77);
        check.due("plain, 77", x.reach(0), 15);
        x.alter(0, 1, 33);
        check.due("plain, 33", x.reach(0), 14);
        x.alter(0, 0, 1);
        check.due("small, 33", x.reach(0), 14);
        x.alter(0, 1, 0);
        check.due("small, 0: 5 CELLS on by 9", x.reach(0), 11);
        x.alter(0, 0, 3);
        check.due("proposal, 0: 2, 4, 6, 7 on", x.reach(0), 9);
        check.promise(22, "held on all sides: 1");
        x = Check.told("plain 33 0 1 0;wall 34;wall 43;wall 32;wall 23;");
        check.due("reach(0)", x.reach(0), 1);
        check.promise(22, "all else as it is: a WIND, a sermon ahead");
        x.blow(0, 0);
        check.due("a WIND into a WALL", x.reach(0), 1);
        x = Check.told("sermon 1 0 1 0;plain 0 0 1 1;sermon 10 0 1 0;");
        check.due("held by sermons", x.reach(1), 1);
        x.alter(1, 4, 0);
        check.due("by order it is held by the first alone", x.reach(1), 8);
    }

    private static void screenBad() {
        VoiceFall x = Check.told("plain 0 0 1 0;");
        check.promise(23, "BAD: no such CELL");
        check.cells("screen", x::screen);
        VoiceFall full = Check.told("plain 70 1 1 0;" + TWELVE_WALLS);
        check.promise(23, "FULL: there are 12 WALLS");
        check.due("something LANDS there", full.screen(70), FULL);
        check.promise(23, "FULL goes ahead of NONE");
        check.due("nothing LANDS there", full.screen(60), FULL);
        check.promise(23, "BAD goes ahead of FULL");
        check.cells("screen", full::screen);
        check.promise(23, "not FULL: there are 11");
        full.build(13, false);
        check.due("nothing LANDS there", full.screen(60), NONE);
        check.due("it comes down where it is FROM", full.screen(70), NONE);
        full.alter(0, 2, 0);
        check.due("screen(71)", full.screen(71), 71);
    }

    private static void screenNone() {
        VoiceFall x = new VoiceFall();
        check.promise(23, "NONE: nothing LANDS there");
        check.due("no SAYINGS", x.screen(0), NONE);
        x.say(0, 0, 1);
        check.due("screen(0)", x.screen(0), NONE);
        check.due("screen(2)", x.screen(2), NONE);
        check.promise(23, "NONE: none");
        x = Check.told("sermon 33 0 1 0;");
        check.due("it stays where it is FROM", x.screen(33), NONE);
        x = Check.told("proposal 33 0 1 0;");
        check.due("a proposal goes over WALLS", x.screen(35), NONE);
        x = Check.told("plain 0 1 1 0;plain 10 3 9 0;plain 20 3 1 0;sermon 10 0 1 0;");
        check.due("two come from two sides, one stays", x.screen(10), NONE);
    }

    private static void screenFirst() {
        check.promise(23, "The first CELL: 0, and 77");
        VoiceFall x = Check.told("plain 10 3 1 0;");
        check.due("screen(0)", x.screen(0), 0);
        x = Check.told("plain 76 0 1 0;");
        check.due("screen(77)", x.screen(77), 77);
        check.promise(23, "The first CELL: of those on its way");
        x = Check.told("plain 70 3 5 0;");
        check.due("screen(20): that itself", x.screen(20), 20);
        x = Check.told("plain 0 1 5 0;");
        check.due("screen(50): one CELL on", x.screen(50), 10);
        check.promise(23, "nothing LANDS in a CELL in which something does: all of it is held");
        x = Check.told("plain 0 1 5 0;plain 57 2 7 0;");
        check.due("screen(50): the CELL itself", x.screen(50), 50);
        x = Check.told("plain 5 1 5 0;plain 50 0 5 0;");
        check.due("screen(55): by one WALL, not by those that were tried ahead", x.screen(55), 55);
        check.promise(23, "a WALL that turns what a WIND bears");
        x = Check.told("plain 30 0 1 0;wind 0 1;");
        check.due("screen(41): where it came down, it is held", x.screen(41), 31);
        x = Check.told("plain 30 0 1 0;wind 0 3;");
        check.due("screen(21): the CELL itself is the first", x.screen(21), 21);
        check.promise(23, "had it one, something else must not LAND there instead");
        x = Check.told("sermon 0 1 4 0;plain 20 0 3 1;wall 24;");
        check.due("screen(23): of the plain one", x.screen(23), 21);
    }

    /** With 11 WALLS the one that is tried is the 12th, and the sermon is none. */
    private static void screenAndTwelve() {
        check.promise(23, "had it one: then the sermon is no WALL, if that makes 12");
        VoiceFall x = Check.told("sermon 40 0 1 0;plain 20 1 5 1;" + ELEVEN_WALLS);
        check.due("it LANDS ahead of the sermon", x.lands(1, 0), 30);
        check.due("screen(30): any CELL lets it go on", x.screen(30), 13);
        check.due("screen(40): the sermon itself LANDS there", x.screen(40), NONE);
    }

    private static void walkBad() {
        VoiceFall x = new VoiceFall();
        check.promise(24, "BAD: no such CELL");
        check.cells("walk(from, 0)", from -> x.walk(from, 0));
        check.cells("walk(0, to)", to -> x.walk(0, to));
        check.promise(24, "BAD is the first that fits");
        VoiceFall wall = Check.told("wall 0;");
        check.due("walk(0, 8), begun in a WALL", wall.walk(0, 8), BAD);
    }

    private static void walkHours() {
        VoiceFall x = new VoiceFall();
        check.promise(24, "0: it is it");
        check.due("walk(0, 0)", x.walk(0, 0), 0);
        check.due("walk(77, 77)", x.walk(77, 77), 0);
        check.promise(24, "The fewest HOURS (0 to 9)");
        for (int place = 0; place < 64; place++) {
            int far = place / 8 + place % 8;
            check.due("walk(0, ..)", x.walk(0, place / 8 * 10 + place % 8), far <= 9 ? far : NONE);
            check.due("walk(.., 0)", x.walk(place / 8 * 10 + place % 8, 0), far <= 9 ? far : NONE);
        }
        check.promise(24, "NONE: by none");
        check.due("10 are too many", x.walk(0, 37), NONE);
        check.due("from one corner to the other", x.walk(7, 70), NONE);
        check.promise(24, "by a WAY: none leads over the edge, from 7 to 10 or from 10 to 7");
        check.due("walk(7, 10)", x.walk(7, 10), 8);
        check.due("walk(10, 7)", x.walk(10, 7), 8);
        x = Check.told("wall 1;wall 10;wall 6;wall 17;");
        check.due("walled in, at 0", x.walk(0, 11), NONE);
        check.due("walled in, at 7", x.walk(7, 16), NONE);
        check.due("walled out, to 7", x.walk(16, 7), NONE);
    }

    private static void walkBegins() {
        check.promise(24, "NONE: it begins where there is a WALL");
        VoiceFall x = Check.told("wall 33;plain 44 0 1 0;plain 46 2 1 1;");
        check.due("to itself", x.walk(33, 33), NONE);
        check.due("to another", x.walk(33, 34), NONE);
        check.promise(24, "NONE: it begins where something LANDS in HOUR 0");
        check.due("to itself", x.walk(45, 45), NONE);
        check.due("to another", x.walk(45, 55), NONE);
        check.promise(24, "what LANDS there in HOUR 1 is no hindrance to begin");
        x.alter(0, 4, 1);
        check.due("to itself", x.walk(45, 45), 0);
        check.due("to another", x.walk(45, 55), 1);
        check.promise(24, "NONE: one comes into no WALL");
        check.due("to a WALL", x.walk(34, 33), NONE);
    }

    private static void walkAndLandings() {
        check.promise(24, "in it nothing LANDS in that HOUR: one comes later");
        VoiceFall x = Check.told("plain 33 0 1 1;");
        check.due("it LANDS in HOUR 1", x.walk(35, 34), 2);
        x.alter(0, 4, 2);
        check.due("it LANDS in HOUR 2", x.walk(35, 34), 1);
        x.alter(0, 4, 0);
        check.due("it LANDS in HOUR 0", x.walk(35, 34), 1);
        x = Check.told("plain 33 0 1 1;plain 37 2 1 1;wall 44;wall 24;wall 46;wall 26;");
        check.due("two LAND in HOUR 1, here the first", x.walk(35, 34), 2);
        check.due("two LAND in HOUR 1, here the second", x.walk(35, 36), 2);
        check.promise(24, "in it nothing LANDS in that HOUR: HOUR 9 is the last");
        x = Check.told("plain 26 0 1 9;");
        check.due("9 HOURS off, and it LANDS", x.walk(0, 27), NONE);
        x.alter(0, 4, 8);
        check.due("9 HOURS off, it LANDED", x.walk(0, 27), 9);
        check.promise(24, "to stay is to be where nothing LANDS, too");
        x = Check.told("wall 1;wall 10;plain 0 2 1 3;");
        check.due("walk(0, 0)", x.walk(0, 0), 0);
        check.due("walks(0)", x.walks(0), 0);
        check.promise(24, "no WALL (as it is ahead of THE DAY): a sermon is none");
        x = Check.told("sermon 1 0 1 0;sermon 10 0 1 0;");
        check.due("walk(0, 1)", x.walk(0, 1), 1);
        x = Check.told("proposal 33 0 1 2;wall 35;");
        check.due("a WALL in which something LANDS", x.walk(34, 35), NONE);
    }

    private static void walksBad() {
        VoiceFall x = new VoiceFall();
        check.promise(25, "BAD: no such CELL");
        check.cells("walks", x::walks);
    }

    private static void walksEdges() {
        VoiceFall x = new VoiceFall();
        check.promise(25, "to which WALKS come in HOUR 9: all, or those that are 9 off at most");
        check.due("walks(33)", x.walks(33), 64);
        for (int corner : new int[] {0, 7, 70, 77}) {
            check.due("walks(" + corner + ")", x.walks(corner), 49);
        }
        check.promise(25, "none: it begins in a WALL, or where something LANDS in HOUR 0");
        x = Check.told("wall 33;plain 44 0 1 0;");
        check.due("walks(33)", x.walks(33), 0);
        check.due("walks(45)", x.walks(45), 0);
        check.due("walks(34)", x.walks(34), 63);
        check.promise(25, "one: walled in");
        x = Check.told("wall 1;wall 10;");
        check.due("walks(0)", x.walks(0), 1);
        x = Check.told("wall 67;wall 76;");
        check.due("walks(77)", x.walks(77), 1);
        check.promise(25, "in HOUR 9: not where something LANDS in it");
        x = Check.told("plain 33 0 1 9;");
        check.due("walks(33)", x.walks(33), 63);
        x.alter(0, 4, 8);
        check.due("walks(33)", x.walks(33), 64);
        check.promise(25, "none: something LANDS on one that is walled in, in any HOUR");
        x = Check.told("wall 1;wall 10;plain 0 2 1 0;");
        for (int hour = 0; hour < 10; hour++) {
            x.alter(0, 4, hour);
            check.due("walks(0), HOUR " + hour, x.walks(0), 0);
        }
        check.promise(25, "12 WALLS");
        x = Check.told(TWELVE_WALLS);
        check.due("walks(33)", x.walks(33), 52);
    }

    private static void whenBad() {
        check.promise(26, "BAD: no such SAYING");
        VoiceFall none = new VoiceFall();
        check.bad("when(s, 0)", s -> none.when(s, 0), -1, 0, 4, 5, Integer.MIN_VALUE, Integer.MAX_VALUE);
        VoiceFall five = Check.told("plain0 0 1 0;".repeat(5));
        check.bounds("when(s, 0)", s -> five.when(s, 0), 0, 4);
        check.promise(26, "BAD: what 0, 1");
        check.bounds("when(4, what)", what -> five.when(4, what), 0, 1);
    }

    private static void when(VoiceFall x, int s, int hour, int many) {
        check.due("when(" + s + ", 0)", x.when(s, 0), hour);
        check.due("when(" + s + ", 1)", x.when(s, 1), many);
    }

    private static void whenEdges() {
        check.promise(26, "nobody: the first HOUR, 0");
        when(Check.told("plain 0 0 1 5;"), 0, 0, 0);
        check.promise(26, "none HEARS it in any HOUR");
        when(Check.told("plain 0 0 1 5;hearer 7;"), 0, 0, 0);
        check.promise(26, "all four HEAR it in any HOUR: the first");
        when(Check.told("plain 0 0 1 5;hearer 1;hearer 1;hearer 1;hearer 1;"), 0, 0, 4);
        check.promise(26, "HOUR 9 alone");
        when(Check.told("plain 33 0 1 0;wind 9 1;hearer 44;"), 0, 9, 1);
        check.promise(26, "of several the first: what LANDS in HOUR 9 may be said in 9, or ahead");
        when(Check.told("plain 33 0 4 0;wind 9 1;hearer 47;"), 0, 7, 1);
        check.promise(26, "most HEARERS, not the first one");
        when(Check.told("plain 33 0 1 0;wind 9 1;hearer 44;hearer 44;hearer 34;"), 0, 9, 2);
        check.promise(26, "all else as it is: a sermon flies ahead of it, or by order");
        VoiceFall x = Check.told("plain 30 0 9 9;sermon 33 0 1 4;hearer 37;hearer 32;hearer 32;");
        when(x, 0, 5, 2);
        x.stand(1, 37);
        when(x, 0, 0, 2);
        x = Check.told("sermon 33 0 1 4;plain 30 0 9 9;hearer 32;");
        when(x, 1, 4, 1);
    }

    private static void changedNothing() {
        VoiceFall x = Check.told("sermon 33 1 4 3;plain 0 0 3 5;wall 31;wind 2 0;hearer 22;");
        int[] before = all(x);
        x.most(0);
        x.aim(0, 77);
        x.aim(1, 0);
        x.reach(0);
        x.reach(1);
        x.screen(3);
        x.screen(63);
        x.walk(0, 1);
        x.walks(0);
        x.when(0, 0);
        x.when(1, 1);
        check.promise(26, "what is best is asked, and changes nothing");
        check.that("all is as it was", java.util.Arrays.equals(before, all(x)));
    }

    private static int[] all(VoiceFall x) {
        int[] all = new int[100];
        for (int i = 0; i < 10; i++) {
            all[i] = x.saying(i / 5, i % 5);
            all[10 + i] = x.wind(i);
        }
        for (int place = 0; place < 64; place++) {
            all[20 + place] = x.wall(place / 8 * 10 + place % 8);
        }
        for (int what = 0; what < 5; what++) {
            all[85 + what] = x.count(what);
            all[90 + what] = x.rule(what);
        }
        all[95] = x.hearer(0);
        return all;
    }
}
