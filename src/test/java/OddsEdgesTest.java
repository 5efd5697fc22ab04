/** Promises 27 and 28, sentence by sentence: odds of none, of all, fractions in lowest terms, refused calls. */
final class OddsEdgesTest {
    private static final Check check = Check.begin();

    /** Each of four sermons is a WALL in the row of the plain one, if its WIND blows; the WIND of HOUR 7 bears that one. */
    private static final String FIVE_WINDS = "sermon11 0 1 0;sermon21 0 1 1;sermon31 0 1 2;sermon41 0 1 3;plain0 1 9 4;"
        + "wind0 2;wind1 2;wind2 2;wind3 2;wind7 0;";

    public static void main(String[] args) {
        luckBad();
        luckOutOfTen();
        luckWithoutWind();
        luckOfFiveWinds();
        luckOfOneHour();
        meanBad();
        meanOfNone();
        meanEdges();
        changedNothing();
        check.finish(27, 28);
    }

    private static void luck(VoiceFall x, int v, int s, int cell, long up, long down) {
        check.due("luck(" + v + ", " + s + ", " + cell + ", 0)", x.luck(v, s, cell, 0), up);
        check.due("luck(" + v + ", " + s + ", " + cell + ", 1)", x.luck(v, s, cell, 1), down);
    }

    private static void mean(VoiceFall x, int v, long up, long down) {
        check.due("mean(" + v + ", 0)", x.mean(v, 0), up);
        check.due("mean(" + v + ", 1)", x.mean(v, 1), down);
    }

    private static void luckBad() {
        VoiceFall x = Check.told("plain0 0 1 0;".repeat(5));
        check.promise(27, "BAD: v (0 to 10)");
        check.bounds("luck(v, 0, 0, 0)", v -> x.luck(v, 0, 0, 0), 0, 10);
        check.promise(27, "BAD: no such SAYING");
        check.bounds("luck(5, s, 0, 0)", s -> x.luck(5, s, 0, 0), 0, 4);
        VoiceFall none = new VoiceFall();
        check.bad("luck(5, s, 0, 0)", s -> none.luck(5, s, 0, 0), -1, 0, 1);
        check.promise(27, "BAD: no such CELL");
        check.cells("luck(5, 4, cell, 1)", cell -> x.luck(5, 4, cell, 1));
        check.promise(27, "BAD: what 0, 1");
        check.bounds("luck(5, 4, 0, what)", what -> x.luck(5, 4, 0, what), 0, 1);
    }

    private static void luckOutOfTen() {
        long[] up = {0, 1, 1, 3, 2, 1, 3, 7, 4, 9, 1};
        long[] down = {1, 10, 5, 10, 5, 2, 5, 10, 5, 10, 1};
        VoiceFall x = Check.told("plain 33 0 2 0;wind 1 1;");
        for (int v = 0; v <= 10; v++) {
            check.promise(27, "Each HOUR is still by v out of ten; Fractions are in lowest terms");
            luck(x, v, 0, 35, up[v], down[v]);
            luck(x, v, 0, 45, up[10 - v], down[10 - v]);
            check.promise(27, "0 is 0 by 1");
            luck(x, v, 0, 55, 0, 1);
        }
        check.promise(27, "v 0: all is as told");
        luck(x, 0, 0, x.lands(0, 0), 1, 1);
        check.promise(27, "v 10: all is still");
        luck(x, 10, 0, 45, 0, 1);
    }

    private static void luckWithoutWind() {
        check.promise(27, "else its WIND is as told: still as told is still");
        VoiceFall x = Check.told("plain 33 0 2 0;wind 0 1;wind 2 1;");
        for (int v = 0; v <= 10; v++) {
            luck(x, v, 0, 35, 1, 1);
        }
        check.promise(27, "a WIND that bears nothing, over the edge or into a WALL");
        x = Check.told("plain 37 0 2 0;plain 33 1 1 0;wind 0 0;wall 44;");
        for (int v = 0; v <= 10; v++) {
            luck(x, v, 0, 37, 1, 1);
            luck(x, v, 1, 43, 1, 1);
        }
        check.promise(27, "the WIND of HOUR 9");
        x = Check.told("plain 33 0 4 9;wind 9 1;");
        luck(x, 3, 0, 37, 3, 10);
        luck(x, 3, 0, 47, 7, 10);
    }

    private static void luckOfFiveWinds() {
        VoiceFall x = Check.told(FIVE_WINDS);
        check.promise(27, "by itself: five HOURS that turn on no other");
        luck(x, 3, 4, 70, 243, 100000);
        luck(x, 3, 4, 71, 567, 100000);
        luck(x, 3, 4, 0, 7, 10);
        luck(x, 3, 4, 10, 21, 100);
        luck(x, 3, 4, 20, 63, 1000);
        luck(x, 3, 4, 30, 189, 10000);
        luck(x, 5, 4, 70, 1, 32);
        luck(x, 9, 4, 70, 59049, 100000);
        luck(x, 1, 4, 70, 1, 100000);
        luck(x, 10, 4, 70, 1, 1);
        luck(x, 0, 4, 70, 0, 1);
        luck(x, 0, 4, 0, 1, 1);
        luck(x, 3, 0, 10, 7, 10);
        luck(x, 3, 3, 41, 3, 10);
    }

    private static void luckOfOneHour() {
        check.promise(27, "one HOUR has one WIND: what LANDS in it fares alike");
        VoiceFall x = Check.told("sermon 33 0 1 0;plain 43 0 1 0;plain 34 1 1 0;wind 0 1;");
        luck(x, 3, 0, 43, 7, 10);
        luck(x, 3, 1, 54, 7, 10);
        luck(x, 3, 2, 54, 7, 10);
        luck(x, 3, 2, 44, 3, 10);
        x = Check.told("sermon33 0 1 0;plain 42 0 1 0;wind 0 1;");
        luck(x, 3, 1, 43, 3, 10);
        luck(x, 3, 1, 52, 7, 10);
        check.promise(27, "one HOUR has one WIND: another HOUR is met between, and the first one again");
        x = Check.told("sermon33 0 1 0;plain 0 0 2 0;plain 42 0 1 0;wind 0 1;wind 1 1;");
        luck(x, 3, 2, 43, 3, 10);
        luck(x, 3, 2, 52, 7, 10);
        luck(x, 3, 2, 42, 0, 1);
        luck(x, 3, 2, 53, 0, 1);
        luck(x, 3, 1, 12, 7, 10);
        check.promise(27, "three HOURS, the first met again");
        x = Check.told("sermon33 0 1 0;plain 0 0 1 1;plain10 0 1 2;plain 34 1 2 0;plain60 0 1 0;wind 0 1;wind 1 1;wind 2 1;");
        luck(x, 4, 4, 71, 3, 5);
        luck(x, 4, 4, 61, 2, 5);
        luck(x, 4, 3, 64, 3, 5);
    }

    private static void meanBad() {
        VoiceFall x = Check.told("plain 0 0 1 0;hearer 1;");
        check.promise(28, "BAD: v (0 to 10)");
        check.bounds("mean(v, 0)", v -> x.mean(v, 0), 0, 10);
        check.promise(28, "BAD: what 0, 1");
        check.bounds("mean(5, what)", what -> x.mean(5, what), 0, 1);
        check.promise(28, "BAD, also where there are no SAYINGS");
        VoiceFall none = new VoiceFall();
        check.bounds("mean(v, 1)", v -> none.mean(v, 1), 0, 10);
        check.bounds("mean(0, what)", what -> none.mean(0, what), 0, 1);
    }

    private static void meanOfNone() {
        check.promise(28, "0 is 0 by 1: no SAYINGS, nobody, none heard");
        for (int v = 0; v <= 10; v++) {
            mean(new VoiceFall(), v, 0, 1);
            mean(Check.told("hearer 0;"), v, 0, 1);
            mean(Check.told("plain 0 0 1 0;wind 0 1;"), v, 0, 1);
            mean(Check.told("plain 0 0 1 0;wind 0 1;hearer 7;"), v, 0, 1);
        }
    }

    private static void meanEdges() {
        check.promise(28, "five are heard by all odds");
        VoiceFall x = Check.told("plain0 0 1 0;".repeat(5) + "wind 0 1;hearer 1;hearer 11;");
        for (int v = 0; v <= 10; v++) {
            mean(x, v, 5, 1);
        }
        check.promise(28, "Each HOUR is still by v out of ten; Fractions are in lowest terms");
        long[] up = {0, 1, 1, 3, 2, 5, 3, 7, 4, 9, 5};
        long[] down = {1, 2, 1, 2, 1, 2, 1, 2, 1, 2, 1};
        x.stand(1, 1);
        for (int v = 0; v <= 10; v++) {
            mean(x, v, up[v], down[v]);
        }
        check.promise(28, "one that two hear is one");
        x = Check.told("plain 33 0 1 0;wind 0 1;hearer 44;hearer 44;");
        mean(x, 3, 7, 10);
        check.promise(28, "five HOURS");
        x = Check.told(FIVE_WINDS + "hearer 70;");
        mean(x, 3, 243, 100000);
        x.stand(0, 71);
        mean(x, 3, 567, 100000);
        x.stand(0, 11);
        mean(x, 3, 3, 10);
    }

    private static void changedNothing() {
        VoiceFall x = Check.told(FIVE_WINDS);
        x.luck(10, 4, 70, 0);
        x.mean(10, 0);
        check.promise(28, "odds are asked, and change nothing");
        check.due("rule(3)", x.rule(3), 15 + 128);
        check.due("rule(2)", x.rule(2), 0);
        check.due("lands(4, 0)", x.lands(4, 0), 0);
    }
}
