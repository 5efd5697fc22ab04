/** Promises 11 to 15: alter, stand, build, blow, say. */
final class ChangeTest {
    private static final Check check = Check.begin();

    public static void main(String[] args) {
        alter();
        stand();
        build();
        blow();
        say();
        check.finish(11, 15);
    }

    private static void alter() {
        check.promise(11, "alter");
        VoiceFall x = Check.told("small 12 1 4 3;");
        int[] was = {1, 12, 1, 4, 3};
        int[] most = {3, 77, 3, 9, 9};
        int[] least = {0, 0, 0, 1, 0};
        for (int what = 0; what < 5; what++) {
            check.due("alter too much", x.alter(0, what, most[what] + 1), VoiceFall.BAD);
            check.due("alter too little", x.alter(0, what, least[what] - 1), VoiceFall.BAD);
            check.due("alter(0, " + what + ") to the most", x.alter(0, what, most[what]), was[what]);
            check.due("it is", x.saying(0, what), most[what]);
            check.due("alter(0, " + what + ") to the least", x.alter(0, what, least[what]), most[what]);
            check.due("it is", x.saying(0, what), least[what]);
        }
        check.due("alter to no CELL", x.alter(0, 1, 8), VoiceFall.BAD);
        check.due("alter REACH", x.alter(0, 5, 1), VoiceFall.BAD);
        check.due("alter -1", x.alter(0, -1, 1), VoiceFall.BAD);
        check.due("no such SAYING", x.alter(1, 0, 0), VoiceFall.BAD);
        check.due("no such SAYING", x.alter(-1, 0, 0), VoiceFall.BAD);
    }

    private static void stand() {
        check.promise(12, "stand");
        VoiceFall x = Check.told("wall 5;hearer 12;hearer 13;");
        check.due("stand(1, 77)", x.stand(1, 77), 13);
        check.due("stand(1, 5), a WALL", x.stand(1, 5), 77);
        check.due("hearer(1)", x.hearer(1), 5);
        check.due("hearer(0)", x.hearer(0), 12);
        check.due("stand(2, 0)", x.stand(2, 0), VoiceFall.BAD);
        check.due("stand(-1, 0)", x.stand(-1, 0), VoiceFall.BAD);
        check.due("stand(0, 18)", x.stand(0, 18), VoiceFall.BAD);
        check.due("stand(0, 80)", x.stand(0, 80), VoiceFall.BAD);
    }

    private static void build() {
        check.promise(13, "build");
        VoiceFall x = new VoiceFall();
        check.due("build no CELL", x.build(80, true), VoiceFall.BAD);
        check.due("build no CELL", x.build(9, false), VoiceFall.BAD);
        check.due("build none", x.build(70, false), 0);
        for (int i = 0; i < 12; i++) {
            check.due("build " + i, x.build(10 * (i % 8) + i / 8, true), 0);
        }
        check.due("rule(2)", x.rule(2), 12);
        check.due("the 13th", x.build(77, true), VoiceFall.FULL);
        check.due("the 13th, no CELL", x.build(78, true), VoiceFall.BAD);
        check.due("one that is", x.build(0, true), 1);
        check.due("none where none is", x.build(77, false), 0);
        check.due("one less", x.build(0, false), 1);
        check.due("wall(0)", x.wall(0), 0);
        check.due("one more", x.build(77, true), 0);
        check.due("wall(77)", x.wall(77), 1);
    }

    private static void blow() {
        check.promise(14, "blow");
        VoiceFall x = new VoiceFall();
        check.due("blow(0, 0)", x.blow(0, 0), 4);
        check.due("blow(9, 3)", x.blow(9, 3), 4);
        check.due("rule(3)", x.rule(3), 513);
        check.due("blow(9, 4)", x.blow(9, 4), 3);
        check.due("rule(3)", x.rule(3), 1);
        check.due("blow(9, 5)", x.blow(9, 5), VoiceFall.BAD);
        check.due("blow(9, -1)", x.blow(9, -1), VoiceFall.BAD);
        check.due("blow(10, 0)", x.blow(10, 0), VoiceFall.BAD);
        check.due("blow(-1, 0)", x.blow(-1, 0), VoiceFall.BAD);
    }

    private static void say() {
        check.promise(15, "say");
        VoiceFall x = Check.told("sermon 12 1 4 3;");
        check.due("say(80, 0, 1)", x.say(80, 0, 1), VoiceFall.BAD);
        check.due("say(0, 4, 1)", x.say(0, 4, 1), VoiceFall.BAD);
        check.due("say(0, -1, 1)", x.say(0, -1, 1), VoiceFall.BAD);
        check.due("say(0, 0, 0)", x.say(0, 0, 0), VoiceFall.BAD);
        check.due("say(0, 0, 10)", x.say(0, 0, 10), VoiceFall.BAD);
        for (int s = 1; s < 5; s++) {
            check.due("say " + s, x.say(77, 3, 9), s);
            check.due("plain", x.saying(s, 0), 0);
            check.due("FROM", x.saying(s, 1), 77);
            check.due("WAY", x.saying(s, 2), 3);
            check.due("FORCE", x.saying(s, 3), 9);
            check.due("HOUR", x.saying(s, 4), 0);
        }
        check.due("the 6th", x.say(0, 0, 1), VoiceFall.FULL);
        check.due("the 6th, not as told", x.say(0, 0, 0), VoiceFall.BAD);
        check.due("rule(0)", x.rule(0), 5);
        x = Check.told("sermon 12 1 4 3;");
        x.text();
        check.due("say in place of a sermon that is gone", x.say(0, 0, 1), 0);
        check.due("plain", x.saying(0, 0), 0);
        check.due("HOUR", x.saying(0, 4), 0);
    }
}
