/** What the project's tests share: answers that are due, and the telling of a text. */
final class Check {
    private int asked;
    private int wrong;

    void due(String call, long got, long want) {
        asked++;
        if (got != want) {
            wrong++;
            System.out.println(call + " answered " + got + ", due is " + want);
        }
    }

    void that(String what, boolean holds) {
        asked++;
        if (!holds) {
            wrong++;
            System.out.println("not so: " + what);
        }
    }

    /** Ends the test: exit code 1 if an answer was not the one that was due. */
    void finish() {
        System.out.println(wrong == 0 ? asked + " answers are as due" : wrong + " of " + asked + " answers are not as due");
        if (wrong != 0) {
            System.exit(1);
        }
    }

    static void feed(VoiceFall x, String tape) {
        for (int i = 0; i < tape.length(); i++) {
            x.feed(tape.charAt(i));
        }
    }

    static int tell(VoiceFall x, String tape) {
        feed(x, tape);
        return x.text();
    }

    static VoiceFall told(String tape) {
        VoiceFall x = new VoiceFall();
        int lines = tell(x, tape);
        if (lines < 0) {
            throw new IllegalStateException("a test's own text is refused: " + tape);
        }
        return x;
    }

    private Check() {
    }

    static Check begin() {
        return new Check();
    }
}
