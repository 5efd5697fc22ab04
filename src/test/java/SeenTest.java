/** Promises 29 to 34: see, forget, kinds, forces, froms, look. */
final class SeenTest {
    private static final Check check = Check.begin();

    public static void main(String[] args) {
        seeAndForget();
        kinds();
        forces();
        froms();
        look();
        lookThroughASermon();
        check.finish(29, 34);
    }

    private static void seeAndForget() {
        check.promise(29, "see");
        VoiceFall x = Check.told("plain 0 0 1 0;plain 0 1 1 0;");
        check.due("see(2, 0)", x.see(2, 0), VoiceFall.BAD);
        check.due("see(-1, 0)", x.see(-1, 0), VoiceFall.BAD);
        check.due("see(0, 8)", x.see(0, 8), VoiceFall.BAD);
        check.promise(30, "forget");
        check.due("forget(1) of nothing", x.forget(1), VoiceFall.BAD);
        check.due("forget(0) of nothing", x.forget(0), 0);
        check.promise(29, "see");
        for (int i = 1; i <= 6; i++) {
            check.due("see the same again " + i, x.see(0, 1), i);
        }
        check.due("the 7th", x.see(0, 1), VoiceFall.FULL);
        check.due("the 7th, no CELL", x.see(0, 80), VoiceFall.BAD);
        check.promise(30, "forget");
        check.due("forget(7)", x.forget(7), VoiceFall.BAD);
        check.due("forget(-1)", x.forget(-1), VoiceFall.BAD);
        check.due("forget(6)", x.forget(6), 6);
        check.due("forget(2)", x.forget(2), 6);
        check.due("count(0)", x.count(0), 2);
        check.due("forget(0)", x.forget(0), 2);
        check.due("see(1, 5)", x.see(1, 5), 1);
    }

    private static void kinds() {
        check.promise(31, "kinds");
        VoiceFall x = Check.told("plain 0 0 3 0;");
        check.due("kinds(0), nothing SEEN", x.kinds(0), 15);
        x.see(0, 2);
        check.due("kinds(0)", x.kinds(0), 2 + 4);
        x.alter(0, 3, 4);
        check.due("kinds(0)", x.kinds(0), 2);
        x.forget(0);
        x.see(0, 4);
        check.due("kinds(0)", x.kinds(0), 1 + 8);
        x.build(3, true);
        check.due("kinds(0)", x.kinds(0), 8);
        x.see(0, 3);
        check.due("kinds(0), SEEN in two CELLS", x.kinds(0), 0);
        check.due("it stays as it is", x.saying(0, 0), 0);
        check.due("kinds(1)", x.kinds(1), VoiceFall.BAD);
        check.due("kinds(-1)", x.kinds(-1), VoiceFall.BAD);
    }

    private static void forces() {
        check.promise(32, "forces");
        VoiceFall x = Check.told("small 0 0 1 0;plain 77 2 1 0;");
        check.due("forces(0), nothing SEEN", x.forces(0), 1022);
        x.see(0, 2);
        check.due("forces(0)", x.forces(0), 8 + 16);
        check.due("forces(1): it is not by this one", x.forces(1), 0);
        x.alter(0, 3, 3);
        check.due("forces(1)", x.forces(1), 1022);
        x.see(1, 70);
        check.due("forces(1)", x.forces(1), 128 + 256 + 512);
        check.due("forces(2)", x.forces(2), VoiceFall.BAD);
        check.due("forces(-1)", x.forces(-1), VoiceFall.BAD);
    }

    private static void froms() {
        check.promise(33, "froms");
        VoiceFall x = Check.told("plain 0 0 3 0;wall 25;");
        check.due("froms(0, 0), nothing SEEN", x.froms(0, 0), 64);
        check.due("froms(0, 1), nothing SEEN", x.froms(0, 1), 0);
        x.see(0, 34);
        check.due("froms(0, 0)", x.froms(0, 0), 1);
        check.due("froms(0, 1)", x.froms(0, 1), 31);
        x.forget(0);
        x.see(0, 27);
        check.due("froms(0, 0): also of a WALL", x.froms(0, 0), 3);
        check.due("froms(0, 1): also of a WALL", x.froms(0, 1), 25);
        x.forget(0);
        x.see(0, 25);
        check.due("froms(0, 0): none", x.froms(0, 0), 0);
        check.due("froms(0, 1): none", x.froms(0, 1), VoiceFall.NONE);
        check.due("it stays as it is", x.saying(0, 1), 0);
        check.due("froms(0, 2)", x.froms(0, 2), VoiceFall.BAD);
        check.due("froms(0, -1)", x.froms(0, -1), VoiceFall.BAD);
        check.due("froms(1, 0)", x.froms(1, 0), VoiceFall.BAD);
    }

    private static void look() {
        check.promise(34, "look");
        VoiceFall x = Check.told("plain 70 0 1 0;plain 0 0 1 0;");
        check.due("look(1, 0)", x.look(1, 0), 1);
        check.due("look(1, 1): 7, 8, 9 come to one CELL", x.look(1, 1), 3);
        x.see(1, 1);
        check.due("look(1, 0): one FORCE is left", x.look(1, 0), VoiceFall.NONE);
        check.due("look(1, 1): one FORCE is left", x.look(1, 1), VoiceFall.NONE);
        x.see(1, 2);
        check.due("look(1, 0): no FORCE is left", x.look(1, 0), VoiceFall.NONE);
        check.due("look(1, 1): no FORCE is left", x.look(1, 1), VoiceFall.NONE);
        x.forget(0);
        x.see(1, 7);
        check.due("look(1, 0): none tells more", x.look(1, 0), VoiceFall.NONE);
        check.due("look(2, 0)", x.look(2, 0), VoiceFall.BAD);
        check.due("look(-1, 0)", x.look(-1, 0), VoiceFall.BAD);
        check.due("look(0, 2)", x.look(0, 2), VoiceFall.BAD);
        check.due("look(0, -1)", x.look(0, -1), VoiceFall.BAD);
    }

    /** A plain one tells by where it is held which FORCE the sermon ahead had: SAYING 0 does it first. */
    private static void lookThroughASermon() {
        check.promise(34, "look: through a sermon");
        VoiceFall x = Check.told("plain 20 0 9 1;sermon 20 0 1 0;");
        check.due("look(1, 0)", x.look(1, 0), 0);
        check.due("look(1, 1)", x.look(1, 1), 2);
        x.alter(0, 1, 27);
        x.alter(0, 2, 2);
        check.due("look(1, 0): held from the other side", x.look(1, 0), 0);
        x.alter(0, 4, 0);
        check.due("look(1, 0): it flies ahead of the sermon", x.look(1, 0), 1);
        check.due("look(1, 1)", x.look(1, 1), 2);
        check.due("look(0, 0)", x.look(0, 0), 0);
    }
}
