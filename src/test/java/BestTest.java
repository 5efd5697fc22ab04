/** Promises 20 to 26: most, aim, reach, screen, walk, walks, when. */
final class BestTest {
    private static final Check check = Check.begin();

    public static void main(String[] args) {
        most();
        aim();
        reach();
        screen();
        walk();
        walks();
        when();
        check.finish(20, 26);
    }

    private static void most() {
        check.promise(20, "most");
        VoiceFall x = Check.told("wall 0;wall 1;");
        check.due("most(0) of nothing", x.most(0), 2);
        check.due("most(1) of nothing", x.most(1), 0);
        check.due("most(2)", x.most(2), VoiceFall.BAD);
        check.due("most(-1)", x.most(-1), VoiceFall.BAD);
        x = Check.told("plain 40 0 3 0;plain 46 2 3 0;proposal 30 0 3 0;proposal 30 0 4 0;wall 34;");
        check.due("most(0): not where a WALL is", x.most(0), 43);
        check.due("most(1)", x.most(1), 2);
        x.build(34, false);
        check.due("most(0): of several the first", x.most(0), 34);
        x = Check.told("sermon 40 0 3 0;");
        check.due("most(0): the WALL of a sermon is later", x.most(0), 42);
    }

    private static void aim() {
        check.promise(21, "aim");
        VoiceFall x = Check.told("small 0 0 9 0;");
        check.due("aim(0, 0)", x.aim(0, 0), 12);
        check.due("aim(0, 3)", x.aim(0, 3), 50);
        check.due("aim(0, 50)", x.aim(0, 50), 91);
        check.due("aim(0, 60)", x.aim(0, 60), VoiceFall.NONE);
        check.due("aim(0, 8)", x.aim(0, 8), VoiceFall.BAD);
        check.due("aim(1, 0)", x.aim(1, 0), VoiceFall.BAD);
        check.due("aim(-1, 0)", x.aim(-1, 0), VoiceFall.BAD);
        x.alter(0, 0, 2);
        check.due("aim(0, 0) of a sermon", x.aim(0, 0), 10);
        check.due("aim(0, 7) of a sermon", x.aim(0, 7), 80);
        x.blow(3, 1);
        check.due("aim(0, 17) by a WIND", x.aim(0, 17), 80);
        check.due("it stays as it is", x.saying(0, 3), 9);
        check.due("it stays as it is", x.saying(0, 2), 0);
    }

    private static void reach() {
        check.promise(22, "reach");
        VoiceFall x = Check.told("plain 33 0 1 0;");
        check.due("reach(0)", x.reach(0), 14);
        x.alter(0, 0, 2);
        check.due("reach(0) of a sermon", x.reach(0), 15);
        x.alter(0, 0, 3);
        check.due("reach(0) of a proposal", x.reach(0), 8);
        x.blow(2, 3);
        x.build(67, true);
        x.build(63, true);
        check.due("reach(0) with a WIND: 27 and, over a WALL, 63", x.reach(0), 8);
        x.alter(0, 0, 0);
        x.blow(2, 4);
        check.due("reach(0) held by a WALL", x.reach(0), 12);
        x = Check.told("small 0 0 1 0;");
        check.due("reach(0) by all FORCES, 5 CELLS by 9", x.reach(0), 11);
        check.due("reach(1)", x.reach(1), VoiceFall.BAD);
        check.due("reach(-1)", x.reach(-1), VoiceFall.BAD);
    }

    private static void screen() {
        check.promise(23, "screen");
        VoiceFall x = Check.told("plain 0 1 5 0;");
        check.due("screen(50)", x.screen(50), 10);
        check.due("screen(40): nothing LANDS there", x.screen(40), VoiceFall.NONE);
        check.due("screen(8)", x.screen(8), VoiceFall.BAD);
        x.build(10, true);
        check.due("screen(0): it came down where it was", x.screen(0), VoiceFall.NONE);
        x = Check.told("plain 0 1 1 0;plain 20 3 1 0;");
        check.due("screen(10): both held by one WALL", x.screen(10), 10);
        x = Check.told("plain 0 1 5 0;wall 1;wall 2;wall 3;wall 4;wall 5;wall 6;wall 7;wall 17;wall 16;wall 15;wall 14;wall 13;");
        check.due("screen(50): 12 WALLS", x.screen(50), VoiceFall.FULL);
        check.due("screen(40): 12 WALLS", x.screen(40), VoiceFall.FULL);
        check.due("screen(80): 12 WALLS", x.screen(80), VoiceFall.BAD);
        x.build(13, false);
        check.due("screen(50): 11 WALLS", x.screen(50), 10);
        check.due("the coast stays as it is", x.rule(2), 11);
    }

    private static void walk() {
        check.promise(24, "walk");
        VoiceFall x = new VoiceFall();
        check.due("walk(0, 0)", x.walk(0, 0), 0);
        check.due("walk(0, 27)", x.walk(0, 27), 9);
        check.due("walk(0, 37)", x.walk(0, 37), VoiceFall.NONE);
        check.due("walk(77, 0)", x.walk(77, 0), VoiceFall.NONE);
        check.due("walk(7, 10)", x.walk(7, 10), 8);
        check.due("walk(8, 0)", x.walk(8, 0), VoiceFall.BAD);
        check.due("walk(0, 8)", x.walk(0, 8), VoiceFall.BAD);
        check.due("walk(-1, 0)", x.walk(-1, 0), VoiceFall.BAD);
        x = Check.told("wall 1;wall 11;wall 21;plain 20 0 1 0;");
        check.due("walk(1, 1): begins in a WALL", x.walk(1, 1), VoiceFall.NONE);
        check.due("walk(20, 20): something LANDS", x.walk(20, 20), VoiceFall.NONE);
        check.due("walk(20, 30): something LANDS", x.walk(20, 30), VoiceFall.NONE);
        check.due("walk(0, 11): to a WALL", x.walk(0, 11), VoiceFall.NONE);
        check.due("walk(0, 2): around", x.walk(0, 2), 8);
        x = Check.told("wall 1;wall 11;wall 21;wall 31;wall 41;wall 51;wall 61;plain 17 2 1 1;");
        check.due("walk(70, 71)", x.walk(70, 71), 1);
        x.alter(0, 1, 72);
        x.alter(0, 2, 2);
        check.due("walk(70, 71): one waits", x.walk(70, 71), 2);
        x.alter(0, 1, 70);
        check.due("walk(70, 71): it comes from here", x.walk(70, 71), 1);
        x = Check.told("sermon 1 0 1 0;");
        check.due("walk(0, 1): the WALL of a sermon is no hindrance", x.walk(0, 1), 1);
        x = Check.told("wall 1;wall 10;plain 0 2 1 5;");
        check.due("walk(0, 0): it LANDS later", x.walk(0, 0), 0);
        check.due("walks(0): none outlives it", x.walks(0), 0);
    }

    private static void walks() {
        check.promise(25, "walks");
        VoiceFall x = new VoiceFall();
        check.due("walks(0)", x.walks(0), 49);
        check.due("walks(33)", x.walks(33), 64);
        check.due("walks(8)", x.walks(8), VoiceFall.BAD);
        check.due("walks(-1)", x.walks(-1), VoiceFall.BAD);
        x.build(0, true);
        check.due("walks(0) of a WALL", x.walks(0), 0);
        check.due("walks(33)", x.walks(33), 63);
        x.build(1, true);
        x.build(10, true);
        x.build(0, false);
        check.due("walks(0) walled in", x.walks(0), 1);
        x.say(0, 3, 1);
        check.due("walks(0) where something LANDS", x.walks(0), 0);
    }

    private static void when() {
        check.promise(26, "when");
        VoiceFall x = Check.told("plain 33 0 2 5;wind 3 1;wind 4 1;wind 7 3;hearer 45;hearer 25;hearer 25;");
        check.due("when(0, 0)", x.when(0, 0), 6);
        check.due("when(0, 1)", x.when(0, 1), 2);
        x.stand(2, 45);
        check.due("when(0, 0)", x.when(0, 0), 2);
        x.stand(0, 0);
        check.due("when(0, 0): of several the first", x.when(0, 0), 2);
        check.due("when(0, 1)", x.when(0, 1), 1);
        x.stand(1, 0);
        x.stand(2, 0);
        check.due("when(0, 0): by none", x.when(0, 0), 0);
        check.due("when(0, 1): by none", x.when(0, 1), 0);
        check.due("it stays as it is", x.saying(0, 4), 5);
        check.due("when(0, 2)", x.when(0, 2), VoiceFall.BAD);
        check.due("when(0, -1)", x.when(0, -1), VoiceFall.BAD);
        check.due("when(1, 0)", x.when(1, 0), VoiceFall.BAD);
    }
}
