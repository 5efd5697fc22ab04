/** Promises 16 to 19, sentence by sentence: the edges of A FLIGHT and of THE DAY, and refused calls. */
final class DayEdgesTest {
    private static final Check check = Check.begin();
    private static final String TWELVE_WALLS = "wall0;wall1;wall2;wall3;wall4;wall5;wall6;wall7;wall10;wall11;wall12;wall13;";
    private static final String ELEVEN_WALLS = "wall0;wall1;wall2;wall3;wall4;wall5;wall6;wall7;wall10;wall11;wall12;";

    public static void main(String[] args) {
        landsBad();
        reachOfThem();
        edgesOfTheCoast();
        wallAhead();
        overWalls();
        halfOfSteps();
        windsBear();
        windsThatCanNot();
        byHourAndOrder();
        sermonWalls();
        fewerThanTwelve();
        hearsBad();
        hearsAll();
        fieldBad();
        fieldEdges();
        sumBad();
        sumEdges();
        changedNothing();
        check.finish(16, 19);
    }

    private static void lands(VoiceFall x, int s, int cell, int hour, int steps) {
        check.due("lands(" + s + ", 0)", x.lands(s, 0), cell);
        check.due("lands(" + s + ", 1)", x.lands(s, 1), hour);
        check.due("lands(" + s + ", 2)", x.lands(s, 2), steps);
    }

    private static void landsBad() {
        check.promise(16, "BAD: no such SAYING");
        VoiceFall none = new VoiceFall();
        check.bad("lands(s, 0)", s -> none.lands(s, 0), -1, 0, 4, 5, Integer.MIN_VALUE, Integer.MAX_VALUE);
        VoiceFall one = Check.told("plain 0 0 1 0;");
        check.bounds("lands(s, 0)", s -> one.lands(s, 0), 0, 0);
        VoiceFall five = Check.told("plain0 0 1 0;".repeat(5));
        check.bounds("lands(s, 2)", s -> five.lands(s, 2), 0, 4);
        check.promise(16, "BAD: what 0 to 2");
        check.bounds("lands(4, what)", what -> five.lands(4, what), 0, 2);
    }

    /** Of each KIND by each FORCE, along a row of 8 CELLS. */
    private static void reachOfThem() {
        int[][] reach = {{1, 2, 3, 4, 5, 6, 7, 8, 9}, {1, 1, 2, 2, 3, 3, 4, 4, 5}, {0, 1, 2, 3, 4, 5, 6, 7, 8}, {2, 2, 4, 4, 6, 6, 8, 8, 10}};
        check.promise(16, "CELL by CELL, REACH of them, as long as there is a CELL");
        VoiceFall x = Check.told("plain 0 0 1 0;");
        for (int kind = 0; kind < 4; kind++) {
            x.alter(0, 0, kind);
            for (int force = 1; force <= 9; force++) {
                x.alter(0, 3, force);
                int steps = Math.min(7, reach[kind][force - 1]);
                lands(x, 0, steps, steps / 2, steps);
            }
        }
    }

    private static void edgesOfTheCoast() {
        check.promise(16, "as long as there is a CELL: none at all, by each WAY");
        int[] from = {37, 73, 30, 3};
        for (int way = 0; way < 4; way++) {
            for (int kind = 0; kind < 4; kind++) {
                VoiceFall x = new VoiceFall();
                x.say(from[way], way, 9);
                x.alter(0, 0, kind);
                lands(x, 0, from[way], 0, 0);
            }
        }
        check.promise(16, "WAYS: 0 north (y more), 1 east (x more), 2 south (y less), 3 west (x less)");
        int[] on = {34, 43, 32, 23};
        int[] end = {37, 73, 30, 3};
        for (int way = 0; way < 4; way++) {
            VoiceFall x = new VoiceFall();
            x.say(33, way, 1);
            lands(x, 0, on[way], 0, 1);
            x.alter(0, 3, 9);
            lands(x, 0, end[way], way < 2 ? 2 : 1, way < 2 ? 4 : 3);
        }
        check.promise(16, "from one side to the other: 7 STEPS");
        int[] begin = {0, 7, 77, 70};
        int[] across = {7, 77, 70, 0};
        for (int way = 0; way < 4; way++) {
            VoiceFall x = new VoiceFall();
            x.say(begin[way], way, 7);
            lands(x, 0, across[way], 3, 7);
            x.alter(0, 3, 8);
            lands(x, 0, across[way], 3, 7);
        }
        check.promise(16, "REACH of none: a sermon by FORCE 1");
        VoiceFall x = Check.told("sermon 33 0 1 5;");
        lands(x, 0, 33, 5, 0);
    }

    private static void wallAhead() {
        check.promise(16, "but for a proposal, one without a WALL");
        for (int kind = 0; kind < 3; kind++) {
            VoiceFall x = Check.told("plain 33 1 9 0;wall 43;");
            x.alter(0, 0, kind);
            lands(x, 0, 33, 0, 0);
            x.build(43, false);
            x.build(53, true);
            lands(x, 0, 43, 0, 1);
            x.build(53, false);
            x.build(73, true);
            lands(x, 0, 63, 1, 3);
        }
        check.promise(16, "a WALL in the CELL that it is FROM does not hold it");
        VoiceFall x = Check.told("plain 33 1 2 0;wall 33;");
        lands(x, 0, 53, 1, 2);
        check.promise(16, "a WALL behind REACH does not hold it");
        x.build(63, true);
        lands(x, 0, 53, 1, 2);
    }

    private static void overWalls() {
        check.promise(16, "a proposal goes over WALLS");
        VoiceFall x = Check.told("proposal 3 1 9 0;wall 13;wall 23;wall 33;wall 43;wall 53;wall 63;wall 73;");
        lands(x, 0, 73, 3, 7);
        x.alter(0, 3, 1);
        lands(x, 0, 23, 1, 2);
        check.promise(16, "a proposal: if there is a CELL (also one with a WALL)");
        x.blow(1, 1);
        lands(x, 0, 33, 1, 2);
        x.alter(0, 1, 63);
        x.blow(0, 1);
        lands(x, 0, 73, 0, 1);
    }

    private static void halfOfSteps() {
        check.promise(16, "the HOUR so many later as half of STEPS are (down)");
        VoiceFall x = Check.told("plain 0 1 1 0;");
        for (int force = 1; force <= 7; force++) {
            x.alter(0, 3, force);
            for (int hour = 0; hour < 10; hour++) {
                x.alter(0, 4, hour);
                check.promise(16, "HOUR: 9 at most");
                lands(x, 0, 10 * force, Math.min(9, hour + force / 2), force);
            }
        }
        check.promise(16, "the WIND of HOUR 9 where it would be later");
        x = Check.told("plain 0 1 7 9;wind 9 0;wind 0 2;wind 2 2;");
        lands(x, 0, 71, 9, 7);
        x.alter(0, 4, 6);
        lands(x, 0, 71, 9, 7);
        x.alter(0, 4, 5);
        lands(x, 0, 70, 8, 7);
    }

    private static void windsBear() {
        check.promise(16, "the WIND of that HOUR bears it one CELL on by its WAY");
        int[] on = {36, 45, 34, 25, 35};
        for (int wind = 0; wind < 5; wind++) {
            VoiceFall x = Check.told("plain 33 0 2 4;");
            x.blow(5, wind);
            lands(x, 0, on[wind], 5, 2);
            check.due("not by the WIND in which it is said", x.blow(4, 1), 4);
            lands(x, 0, on[wind], 5, 2);
            x.blow(6, 1);
            lands(x, 0, on[wind], 5, 2);
        }
        check.promise(16, "STEPS: how many CELLS it went (not by a WIND)");
        VoiceFall x = Check.told("plain 30 0 1 0;wind 0 0;wind 1 3;");
        lands(x, 0, 32, 0, 1);
        check.promise(16, "a WIND against it bears it back");
        x.blow(0, 2);
        lands(x, 0, 30, 0, 1);
    }

    private static void windsThatCanNot() {
        check.promise(16, "if there is a CELL without a WALL: there is no CELL");
        int[] corner = {7, 70, 70, 7};
        for (int wind = 0; wind < 4; wind++) {
            for (int kind = 0; kind < 4; kind++) {
                VoiceFall x = new VoiceFall();
                x.say(corner[wind], wind, 9);
                x.alter(0, 0, kind);
                x.blow(0, wind);
                lands(x, 0, corner[wind], 0, 0);
            }
        }
        check.promise(16, "if there is a CELL without a WALL: it has a WALL");
        for (int kind = 0; kind < 4; kind++) {
            VoiceFall x = Check.told("plain 0 1 2 0;wind 0 0;wind 1 0;wall 11;wall 21;");
            x.alter(0, 0, kind);
            int steps = x.saying(0, 5);
            lands(x, 0, 10 * steps + (kind == 3 ? 1 : 0), steps / 2, steps);
        }
        check.promise(16, "borne from a CELL that has a WALL");
        VoiceFall x = Check.told("proposal 0 1 1 0;wall 20;wind 1 0;");
        lands(x, 0, 21, 1, 2);
        check.promise(16, "borne back over the CELL that it is FROM, if that has no WALL");
        x = Check.told("plain 33 0 1 0;wind 0 2;");
        lands(x, 0, 33, 0, 1);
        x.build(33, true);
        lands(x, 0, 34, 0, 1);
    }

    private static void byHourAndOrder() {
        check.promise(16, "FLIGHTS of all SAYINGS by HOUR");
        VoiceFall x = Check.told("plain 0 1 3 5;sermon 20 0 1 4;");
        lands(x, 0, 10, 5, 1);
        x.alter(1, 4, 6);
        lands(x, 0, 30, 6, 3);
        check.promise(16, "those of one HOUR by order");
        x.alter(1, 4, 5);
        lands(x, 0, 30, 6, 3);
        x = Check.told("sermon 20 0 1 5;plain 0 1 3 5;");
        lands(x, 1, 10, 5, 1);
        check.promise(16, "HOURS 0 and 9 are HOURS like others");
        x = Check.told("plain 0 1 3 9;sermon 20 0 1 0;");
        lands(x, 0, 10, 9, 1);
        x = Check.told("plain 0 1 3 0;sermon 20 0 1 9;");
        lands(x, 0, 30, 1, 3);
        x = Check.told("sermon 20 0 1 9;plain 0 1 3 9;");
        lands(x, 1, 10, 9, 1);
    }

    private static void sermonWalls() {
        check.promise(16, "for those that fly later: one that LANDS later, but flew ahead, is not held");
        VoiceFall x = Check.told("plain 0 1 6 0;sermon 30 0 1 1;");
        lands(x, 0, 60, 3, 6);
        check.promise(16, "for those that fly later: one that flies while the sermon has not LANDED is held");
        x = Check.told("sermon 3 1 7 0;plain 60 0 7 1;");
        lands(x, 0, 63, 3, 6);
        lands(x, 1, 62, 2, 2);
        check.promise(16, "where a sermon LANDS there is a WALL: behind its WIND");
        x = Check.told("sermon 20 0 1 0;plain 1 1 3 0;plain 0 1 3 0;wind 0 0;");
        lands(x, 0, 21, 0, 0);
        lands(x, 1, 12, 0, 1);
        lands(x, 2, 30, 1, 3);
        check.promise(16, "the WALL of a sermon holds another sermon, not a proposal");
        x = Check.told("sermon 20 0 1 0;sermon 0 1 9 0;proposal 0 1 1 1;");
        lands(x, 1, 10, 0, 1);
        lands(x, 2, 20, 2, 2);
        check.promise(16, "the WALL of a sermon holds what a WIND bears");
        x = Check.told("sermon 20 0 1 1;plain 0 1 1 2;wind 2 1;");
        lands(x, 1, 10, 2, 1);
        check.promise(16, "each DAY begins with the WALLS that are: a sermon leaves none for the next call");
        check.due("wall(20)", x.wall(20), 0);
        x.alter(0, 1, 70);
        lands(x, 1, 20, 2, 1);
    }

    private static void fewerThanTwelve() {
        check.promise(16, "a WALL then (if there are fewer than 12): the 12th");
        VoiceFall x = Check.told("sermon 50 0 1 0;plain 30 1 4 1;" + ELEVEN_WALLS);
        lands(x, 1, 40, 1, 1);
        check.promise(16, "a WALL then (if there are fewer than 12): none as the 13th");
        x = Check.told("sermon 50 0 1 0;plain 30 1 4 1;" + TWELVE_WALLS);
        lands(x, 1, 70, 3, 4);
        check.promise(16, "five sermons, eight WALLS: one is left out");
        x = Check.told("sermon70 0 1 0;".repeat(5) + "wall0;wall1;wall2;wall3;wall4;wall5;wall6;wall7;");
        check.due("five in one CELL are one WALL", x.sum(1), 9);
        for (int s = 0; s < 5; s++) {
            x.alter(s, 1, 70 + s);
        }
        check.due("sum(1)", x.sum(1), 12);
        check.due("field(73, 1)", x.field(73, 1), 1);
        check.due("field(74, 1)", x.field(74, 1), 0);
    }

    private static void hearsBad() {
        check.promise(17, "BAD: nobody");
        VoiceFall none = new VoiceFall();
        check.bad("hears", none::hears, -1, 0, 3, 4, Integer.MIN_VALUE, Integer.MAX_VALUE);
        check.promise(17, "BAD: no such HEARER");
        VoiceFall one = Check.told("hearer 0;");
        check.bounds("hears", one::hears, 0, 0);
        VoiceFall four = Check.told("hearer 0;hearer 1;hearer 2;hearer 3;");
        check.bounds("hears", four::hears, 0, 3);
        check.promise(17, "SAYINGS (bits): there are none");
        check.due("hears(3)", four.hears(3), 0);
    }

    private static void hearsAll() {
        check.promise(17, "SAYINGS that a HEARER HEARS (bits): all five, by each of four");
        VoiceFall x = Check.told("plain0 0 1 0;".repeat(5) + "hearer1;".repeat(4));
        for (int h = 0; h < 4; h++) {
            check.due("hears(" + h + ")", x.hears(h), 31);
        }
        check.promise(17, "what LANDS in his CELL, not what flies over it or comes FROM it");
        x = Check.told("plain 0 0 3 0;hearer 0;hearer 1;hearer 2;hearer 3;");
        for (int h = 0; h < 4; h++) {
            check.due("hears(" + h + ")", x.hears(h), h == 3 ? 1 : 0);
        }
        check.promise(17, "also where a WALL is");
        x = Check.told("proposal 0 0 1 0;wall 2;hearer 2;");
        check.due("hears(0)", x.hears(0), 1);
        check.promise(17, "in whichever HOUR");
        x = Check.told("plain 0 0 2 0;plain 0 0 2 9;hearer 2;");
        check.due("hears(0)", x.hears(0), 3);
    }

    private static void fieldBad() {
        VoiceFall x = Check.told("sermon 0 0 1 0;");
        check.promise(18, "BAD: no such CELL");
        check.cells("field(cell, 0)", cell -> x.field(cell, 0));
        check.cells("field(cell, 1)", cell -> x.field(cell, 1));
        check.promise(18, "BAD: what 0, 1");
        check.bounds("field(0, what)", what -> x.field(0, what), 0, 1);
        check.bounds("field(77, what)", what -> x.field(77, what), 0, 1);
    }

    private static void fieldEdges() {
        check.promise(18, "SAYINGS that LAND in a CELL: none, all (bits)");
        VoiceFall x = Check.told("plain77 0 1 0;".repeat(5) + "wall 0;");
        check.due("field(77, 0)", x.field(77, 0), 31);
        check.due("field(76, 0)", x.field(76, 0), 0);
        check.due("field(0, 0)", x.field(0, 0), 0);
        check.promise(18, "whether there is a WALL then: told, or by a sermon");
        check.due("field(0, 1)", x.field(0, 1), 1);
        check.due("field(77, 1)", x.field(77, 1), 0);
        x.alter(4, 0, 2);
        check.due("field(77, 1)", x.field(77, 1), 1);
        check.due("wall(77)", x.wall(77), 0);
        check.promise(18, "whether there is a WALL then: the 13th is none");
        x = Check.told("sermon 77 0 1 0;" + TWELVE_WALLS);
        check.due("field(77, 1)", x.field(77, 1), 0);
        x.build(0, false);
        check.due("field(77, 1)", x.field(77, 1), 1);
        check.due("field(0, 1)", x.field(0, 1), 0);
    }

    private static void sumBad() {
        VoiceFall x = Check.told("plain 0 0 1 0;");
        check.promise(19, "BAD");
        check.bounds("sum", x::sum, 0, 3);
        check.promise(19, "of nothing");
        VoiceFall none = new VoiceFall();
        check.bounds("sum", none::sum, 0, 3);
        for (int what = 0; what < 4; what++) {
            check.due("sum(" + what + ")", none.sum(what), 0);
        }
    }

    private static void sumEdges() {
        VoiceFall x = Check.told("plain 0 0 1 0;".repeat(5));
        check.promise(19, "how many SAYINGS are heard: nobody is there");
        check.due("sum(0)", x.sum(0), 0);
        x = Check.told("plain0 0 1 0;".repeat(5) + "hearer1;".repeat(4));
        check.promise(19, "how many SAYINGS are heard: five, by four");
        check.due("sum(0)", x.sum(0), 5);
        check.promise(19, "WALLS then: none, and 12 at most");
        check.due("sum(1)", x.sum(1), 0);
        check.due("of 12 and a sermon", Check.told("sermon 77 0 1 0;" + TWELVE_WALLS).sum(1), 12);
        check.due("of 11 and two sermons", Check.told("sermon 77 0 1 0;sermon 76 0 1 0;" + ELEVEN_WALLS).sum(1), 12);
        check.due("of a sermon in a WALL", Check.told("sermon 0 0 1 0;" + ELEVEN_WALLS).sum(1), 11);
        check.promise(19, "STEPS of all: none, and 35 at most");
        check.due("sum(2)", Check.told("sermon0 0 1 0;plain0 2 9 0;").sum(2), 0);
        check.due("sum(2)", Check.told("proposal0 0 9 0;".repeat(5)).sum(2), 35);
        check.promise(19, "HOURS in which something LANDS (bits): 0 to 9");
        x = Check.told("plain 0 0 1 0;");
        for (int hour = 0; hour < 10; hour++) {
            x.alter(0, 4, hour);
            check.due("sum(3)", x.sum(3), 1 << hour);
        }
        x = Check.told("plain0 0 1 9;plain0 0 9 9;plain0 0 9 7;plain0 0 1 0;plain0 0 2 0;");
        check.due("what would be later is HOUR 9", x.sum(3), 512 + 2 + 1);
    }

    private static void changedNothing() {
        VoiceFall x = Check.told("sermon 33 1 4 0;plain 0 0 3 0;wall 31;wind 2 0;hearer 22;");
        x.lands(0, 0);
        x.hears(0);
        x.field(63, 1);
        x.sum(1);
        check.promise(19, "what is asked of THE DAY changes nothing");
        check.due("rule(2)", x.rule(2), 1);
        check.due("rule(3)", x.rule(3), 4);
        check.due("count(4)", x.count(4), 7);
        check.due("saying(0, 1)", x.saying(0, 1), 33);
        check.due("hearer(0)", x.hearer(0), 22);
    }
}
