/** Promises 27 and 28: luck, mean. */
final class OddsTest {
    private static final Check check = Check.begin();

    public static void main(String[] args) {
        luck();
        shared();
        sermon();
        mean();
        check.finish(27, 28);
    }

    private static void luck(VoiceFall x, int v, int s, int cell, long up, long down) {
        check.due("luck(" + v + ", " + s + ", " + cell + ", 0)", x.luck(v, s, cell, 0), up);
        check.due("luck(" + v + ", " + s + ", " + cell + ", 1)", x.luck(v, s, cell, 1), down);
    }

    private static void mean(VoiceFall x, int v, long up, long down) {
        check.due("mean(" + v + ", 0)", x.mean(v, 0), up);
        check.due("mean(" + v + ", 1)", x.mean(v, 1), down);
    }

    private static void luck() {
        check.promise(27, "luck");
        VoiceFall x = Check.told("plain 33 0 2 0;wind 1 1;");
        luck(x, 4, 0, 35, 2, 5);
        luck(x, 4, 0, 45, 3, 5);
        luck(x, 4, 0, 44, 0, 1);
        luck(x, 0, 0, 45, 1, 1);
        luck(x, 0, 0, 35, 0, 1);
        luck(x, 10, 0, 35, 1, 1);
        luck(x, 7, 0, 35, 7, 10);
        x.build(45, true);
        luck(x, 7, 0, 35, 1, 1);
        check.due("luck(-1, ..)", x.luck(-1, 0, 0, 0), VoiceFall.BAD);
        check.due("luck(11, ..)", x.luck(11, 0, 0, 0), VoiceFall.BAD);
        check.due("luck of no SAYING", x.luck(0, 1, 0, 0), VoiceFall.BAD);
        check.due("luck of no CELL", x.luck(0, 0, 8, 0), VoiceFall.BAD);
        check.due("luck what 2", x.luck(0, 0, 0, 2), VoiceFall.BAD);
        check.due("luck what -1", x.luck(0, 0, 0, -1), VoiceFall.BAD);
    }

    /** One HOUR has one WIND: a sermon and a plain one that LAND in it fare alike. */
    private static void shared() {
        check.promise(27, "luck: one HOUR");
        VoiceFall x = Check.told("sermon 33 0 1 0;plain 43 0 1 0;wind 0 1;");
        luck(x, 3, 0, 33, 3, 10);
        luck(x, 3, 0, 43, 7, 10);
        luck(x, 3, 1, 54, 7, 10);
        luck(x, 3, 1, 44, 3, 10);
        x.alter(1, 1, 44);
        x.alter(1, 2, 2);
        luck(x, 3, 1, 43, 3, 10);
        luck(x, 3, 1, 54, 7, 10);
    }

    /** Where the sermon LANDS turns on a WIND, and with it the HOUR, and so the WIND, of the other one. */
    private static void sermon() {
        check.promise(27, "luck: sermons");
        VoiceFall x = Check.told("sermon 12 0 1 0;plain 0 1 4 1;wind 0 2;wind 1 0;wind 3 0;");
        luck(x, 2, 1, 40, 1, 5);
        x.alter(0, 1, 11);
        luck(x, 2, 0, 10, 4, 5);
        luck(x, 2, 0, 11, 1, 5);
        luck(x, 2, 1, 0, 4, 25);
        luck(x, 2, 1, 1, 16, 25);
        luck(x, 2, 1, 40, 1, 25);
        luck(x, 2, 1, 41, 4, 25);
    }

    private static void mean() {
        check.promise(28, "mean");
        VoiceFall x = new VoiceFall();
        mean(x, 3, 0, 1);
        x = Check.told("plain 33 0 2 0;plain 33 0 4 0;plain 0 0 2 0;hearer 45;hearer 47;hearer 2;wind 1 1;wind 2 1;");
        mean(x, 3, 17, 10);
        x.stand(1, 45);
        mean(x, 3, 1, 1);
        x.stand(1, 2);
        mean(x, 0, 1, 1);
        mean(x, 10, 1, 1);
        mean(x, 5, 1, 1);
        x.stand(2, 12);
        mean(x, 5, 3, 2);
        check.due("mean(11, 0)", x.mean(11, 0), VoiceFall.BAD);
        check.due("mean(-1, 0)", x.mean(-1, 0), VoiceFall.BAD);
        check.due("mean(0, 2)", x.mean(0, 2), VoiceFall.BAD);
        check.due("mean(0, -1)", x.mean(0, -1), VoiceFall.BAD);
    }
}
