/** Promises 16 to 19: lands, hears, field, sum. */
final class DayTest {
    private static final Check check = Check.begin();

    public static void main(String[] args) {
        edges();
        winds();
        sermons();
        proposals();
        manyWalls();
        heard();
        wrong();
        check.finish(16, 19);
    }

    private static void lands(VoiceFall x, int s, int cell, int hour, int steps) {
        check.due("lands(" + s + ", 0)", x.lands(s, 0), cell);
        check.due("lands(" + s + ", 1)", x.lands(s, 1), hour);
        check.due("lands(" + s + ", 2)", x.lands(s, 2), steps);
    }

    private static void edges() {
        check.promise(16, "lands: the edges of the coast");
        VoiceFall x = Check.told("plain 33 0 9 0;plain 33 1 9 0;plain 33 2 9 0;plain 33 3 9 0;plain 70 3 9 8;");
        lands(x, 0, 37, 2, 4);
        lands(x, 1, 73, 2, 4);
        lands(x, 2, 30, 1, 3);
        lands(x, 3, 3, 1, 3);
        lands(x, 4, 0, 9, 7);
        check.due("sum(1)", x.sum(1), 0);
        check.due("sum(2)", x.sum(2), 21);
        check.due("sum(3)", x.sum(3), 2 + 4 + 512);
        check.due("a WALL under it does not hold it", x.build(33, true), 0);
        lands(x, 0, 37, 2, 4);
        x.build(35, true);
        lands(x, 0, 34, 0, 1);
    }

    private static void winds() {
        check.promise(16, "lands: WINDS");
        VoiceFall x = Check.told("plain 33 0 2 0;wind 0 3;wind 1 1;");
        lands(x, 0, 45, 1, 2);
        x.build(45, true);
        lands(x, 0, 35, 1, 2);
        x.blow(1, 2);
        lands(x, 0, 34, 1, 2);
        x.blow(1, 0);
        lands(x, 0, 36, 1, 2);
        x.alter(0, 1, 5);
        x.blow(1, 3);
        lands(x, 0, 7, 1, 2);
        x.alter(0, 3, 1);
        lands(x, 0, 6, 0, 1);
    }

    private static void sermons() {
        check.promise(16, "lands: sermons");
        VoiceFall x = Check.told("plain 0 0 9 2;sermon 20 3 3 1;plain 0 1 3 1;plain 6 2 9 0;");
        lands(x, 3, 0, 3, 6);
        lands(x, 1, 0, 2, 2);
        lands(x, 2, 30, 2, 3);
        lands(x, 0, 7, 5, 7);
        check.due("field(0, 1)", x.field(0, 1), 1);
        check.due("field(0, 0)", x.field(0, 0), 8 + 2);
        check.due("wall(0) ahead of THE DAY", x.wall(0), 0);
        x.alter(1, 1, 21);
        x.alter(1, 4, 0);
        lands(x, 1, 1, 1, 2);
        lands(x, 0, 0, 2, 0);
        check.due("sum(1)", x.sum(1), 1);
        x.alter(1, 4, 2);
        lands(x, 0, 7, 5, 7);
        lands(x, 1, 1, 3, 2);
    }

    private static void proposals() {
        check.promise(16, "lands: proposals");
        VoiceFall x = Check.told("proposal 0 0 3 0;wall 2;wall 4;wall 14;wind 2 1;");
        lands(x, 0, 14, 2, 4);
        x.alter(0, 0, 0);
        lands(x, 0, 1, 0, 1);
        check.due("no WALL more by a proposal", x.sum(1), 3);
    }

    private static void manyWalls() {
        check.promise(19, "sum: WALLS then");
        VoiceFall x = Check.told("sermon 70 0 1 0;sermon 71 0 1 0;plain 73 2 3 1;"
            + "wall 0;wall 1;wall 2;wall 3;wall 4;wall 5;wall 6;wall 7;wall 10;wall 11;wall 12;");
        check.due("sum(1): the 13th is not there", x.sum(1), 12);
        check.due("field(70, 1)", x.field(70, 1), 1);
        check.due("field(71, 1)", x.field(71, 1), 0);
        lands(x, 2, 71, 2, 2);
        x.build(0, false);
        check.due("sum(1)", x.sum(1), 12);
        lands(x, 2, 72, 1, 1);
    }

    private static void heard() {
        check.promise(17, "hears");
        VoiceFall x = Check.told("plain 0 0 3 0;plain 3 1 1 0;plain 13 3 1 0;hearer 3;hearer 13;hearer 3;hearer 77;");
        check.due("hears(0)", x.hears(0), 1 + 4);
        check.due("hears(1)", x.hears(1), 2);
        check.due("hears(2)", x.hears(2), 1 + 4);
        check.due("hears(3)", x.hears(3), 0);
        check.due("sum(0): what several hear is one", x.sum(0), 3);
        check.promise(18, "field");
        check.due("field(3, 0)", x.field(3, 0), 5);
        check.due("field(13, 0)", x.field(13, 0), 2);
        check.due("field(77, 0)", x.field(77, 0), 0);
        x.alter(1, 3, 2);
        check.promise(17, "hears");
        check.due("hears(1) behind a change", x.hears(1), 0);
        x.alter(1, 3, 1);
        check.promise(18, "field");
        check.due("field(13, 0) behind a change", x.field(13, 0), 2);
        x.stand(0, 0);
        x.stand(2, 0);
        check.promise(19, "sum");
        check.due("sum(0)", x.sum(0), 1);
    }

    private static void wrong() {
        check.promise(16, "lands: BAD");
        VoiceFall x = new VoiceFall();
        check.due("lands(0, 0)", x.lands(0, 0), VoiceFall.BAD);
        check.promise(17, "hears: BAD");
        check.due("hears(0)", x.hears(0), VoiceFall.BAD);
        check.promise(19, "sum");
        for (int what = 0; what < 4; what++) {
            check.due("sum(" + what + ") of nothing", x.sum(what), 0);
        }
        check.due("sum(4)", x.sum(4), VoiceFall.BAD);
        check.due("sum(-1)", x.sum(-1), VoiceFall.BAD);
        x.say(0, 0, 1);
        check.promise(16, "lands: BAD");
        check.due("lands(0, 3)", x.lands(0, 3), VoiceFall.BAD);
        check.due("lands(0, -1)", x.lands(0, -1), VoiceFall.BAD);
        check.due("lands(1, 0)", x.lands(1, 0), VoiceFall.BAD);
        check.due("lands(-1, 0)", x.lands(-1, 0), VoiceFall.BAD);
        check.promise(18, "field: BAD");
        check.due("field(78, 0)", x.field(78, 0), VoiceFall.BAD);
        check.due("field(0, 2)", x.field(0, 2), VoiceFall.BAD);
        check.due("field(0, -1)", x.field(0, -1), VoiceFall.BAD);
    }
}
