/** Promises 1 to 10: a new object; feed, end, text, fault, rule, saying, hearer, wall, wind. */
final class TextTest {
    private static final Check check = Check.begin();

    public static void main(String[] args) {
        newObject();
        feedAndEnd();
        soundTexts();
        faults();
        fullTapes();
        faultsOfNumber();
        refusedTextLeavesAll();
        takenTextReplacesAll();
        whatIsTold();
        check.finish(1, 10);
    }

    private static void newObject() {
        check.promise(1, "a new object");
        VoiceFall x = new VoiceFall();
        for (int what = 0; what < 4; what++) {
            check.due("new rule(" + what + ")", x.rule(what), 0);
        }
        check.due("new fault()", x.fault(), 0);
        check.due("new torn()", x.torn(), 0);
        check.due("new count(0)", x.count(0), 0);
        check.due("new count(1)", x.count(1), 0);
        check.due("new count(2)", x.count(2), 0);
        check.due("new count(3)", x.count(3), VoiceFall.NONE);
        check.due("new count(4)", x.count(4), 0);
        check.due("new saying(0, 0)", x.saying(0, 0), VoiceFall.BAD);
        check.due("new hearer(0)", x.hearer(0), VoiceFall.BAD);
        for (int hour = 0; hour < 10; hour++) {
            check.due("new wind(" + hour + ")", x.wind(hour), 4);
        }
        for (int cell = -1; cell < 90; cell++) {
            boolean is = cell >= 0 && cell / 10 < 8 && cell % 10 < 8;
            check.due("new wall(" + cell + ")", x.wall(cell), is ? 0 : VoiceFall.BAD);
        }
        for (int k = 0; k < 4; k++) {
            check.due("new lay(" + k + ", 0, 0)", x.lay(k, 0, 0), -11);
        }
        check.due("new back(0)", x.back(0), VoiceFall.STATE);
        check.due("new back(1)", x.back(1), VoiceFall.STATE);
    }

    private static void feedAndEnd() {
        check.promise(2, "feed");
        VoiceFall x = new VoiceFall();
        check.due("feed(-1)", x.feed(-1), VoiceFall.BAD);
        check.due("feed(128)", x.feed(128), VoiceFall.BAD);
        check.promise(3, "end");
        check.due("end(1) of nothing", x.end(1), VoiceFall.BAD);
        check.due("end(0) of nothing", x.end(0), 0);
        check.promise(2, "feed");
        for (int i = 1; i <= 160; i++) {
            check.due("feed " + i, x.feed(i % 2 == 0 ? 0 : 127), i);
        }
        check.due("the 161st", x.feed(32), VoiceFall.FULL);
        check.due("the 161st, no byte", x.feed(200), VoiceFall.BAD);
        check.due("count(2)", x.count(2), 160);
        check.promise(3, "end");
        check.due("end(161)", x.end(161), VoiceFall.BAD);
        check.due("end(-1)", x.end(-1), VoiceFall.BAD);
        check.due("end(160)", x.end(160), 160);
        check.due("end(3)", x.end(3), 160);
        check.due("end(4)", x.end(4), VoiceFall.BAD);
        check.due("end(0)", x.end(0), 3);
        check.due("feed behind", x.feed(32), 1);
        Check.feed(x, "wall 1;wall 2; xyz");
        check.due("end(15) leaves two lines", x.end(15), 19);
        check.due("text", x.text(), 2);
        check.due("THE TAPE is empty then", x.count(2), 0);
    }

    private static void soundTexts() {
        check.promise(4, "text: what is taken");
        taken("", 0);
        taken("   ", 0);
        taken("wall 0;", 1);
        taken("  wall   77  ;  ", 1);
        taken("wall07;", 1);
        taken("plain 11 1 4 0;small 55 2 5 2;sermon 30 0 4 1;proposal 37 2 5 3;wall 31;wind 2 0;hearer 22;", 7);
        taken("plain00 03 09 09;", 1);
        taken("wind 9 4;wind 0 4;", 2);
        taken("wall 0;wall 1;wall 2;wall 3;wall 4;wall 5;wall 6;wall 7;wall 10;wall 11;wall 12;wall 13;", 12);
        taken("hearer 0;hearer 0;hearer 0;hearer 0;", 4);
        taken("plain 0 0 1 0;plain 0 0 1 0;plain 0 0 1 0;plain 0 0 1 0;plain 0 0 1 0;", 5);
    }

    private static void taken(String tape, int lines) {
        VoiceFall x = new VoiceFall();
        check.due("text of " + tape, Check.tell(x, tape), lines);
        check.due("fault of " + tape, x.fault(), 0);
        check.due("count(2) behind " + tape, x.count(2), 0);
    }

    private static void refused(String tape, int fault, int place) {
        VoiceFall x = new VoiceFall();
        check.due("text of " + tape, Check.tell(x, tape), -10 - place);
        check.due("fault of " + tape, x.fault(), fault);
        check.due("count(2) behind " + tape, x.count(2), 0);
        check.due("nothing told by " + tape, x.rule(0) + x.rule(1) + x.rule(2) + x.rule(3), 0);
    }

    private static void faults() {
        check.promise(4, "text: FAULTS");
        refused("Wall 1;", 1, 0);
        refused("wall 1;\t", 1, 7);
        refused("wall 1,", 1, 6);
        refused("wall 123;", 1, 5);
        refused("  123", 1, 2);
        refused("wall 1; 000", 1, 8);
        refused("wall A", 1, 5);
        refused("wallA", 1, 4);
        refused("12", 2, 0);
        refused(";", 2, 0);
        refused("wall 1;;", 2, 7);
        refused("walls 1;", 2, 0);
        refused("wal 1;", 2, 0);
        refused("wall 1; proposals 1", 2, 8);
        refused("a", 2, 0);
        refused("z 1;", 2, 0);
        refused("wallz 1;", 2, 0);
        refused("wall", 2, 4);
        refused("wall   ", 2, 7);
        refused("wall 1", 2, 6);
        refused("wall 1  ", 2, 8);
        refused("wall 1 2;", 2, 7);
        refused("wall;", 2, 4);
        refused("wall wall 1;", 2, 5);
        refused("wall 1 wall 2;", 2, 7);
        refused("wind 1;", 2, 6);
        refused("hearer 1", 2, 8);
        refused("hearer x", 2, 7);
        refused("plain 0 0 1 0", 2, 13);
        refused("wall 1;wall 2;wall 1;", 4, 19);
        refused("wall 1;wall 01 x", 4, 12);
        refused("wind 1 0;wind 1 0;", 4, 14);
        refused("wind 1 4;wind 01 9;", 4, 14);
        refused("wall 0;wall 1;wall 2;wall 3;wall 4;wall 5;wall 6;wall 7;wall 10;wall 11;wall 12;wall 13;wall 999", 5, 88);
        refused("hearer 0;hearer 0;hearer 0;hearer 0; hearer 99;", 5, 37);
        refused("plain 0 0 1 0;small 0 0 1 0;sermon 0 0 1 0;proposal 0 0 1 0;plain 0 0 1 0;small", 5, 74);
    }

    private static void fullTapes() {
        check.promise(4, "text: of a full TAPE");
        taken(" ".repeat(160), 0);
        taken(" ".repeat(153) + "wall 1;", 1);
        refused("a".repeat(160), 2, 0);
        refused("7".repeat(160), 1, 0);
        refused(" ".repeat(154) + "wall 1", 2, 160);
        refused(" ".repeat(156) + "wall", 2, 160);
        refused("wall 1" + " ".repeat(154), 2, 160);
    }

    private static void faultsOfNumber() {
        check.promise(4, "text: FAULT 3");
        refused("plain 80 0 1 0;", 3, 6);
        refused("plain 8 0 1 0;", 3, 6);
        refused("small 08 0 1 0;", 3, 6);
        refused("sermon 0 4 1 0;", 3, 9);
        refused("proposal 0 0 0 0;", 3, 13);
        refused("plain 0 0 10 0;", 3, 10);
        refused("plain 0 0 1 10;", 3, 12);
        refused("wall 78;", 3, 5);
        refused("wall 99", 3, 5);
        refused("hearer 18;", 3, 7);
        refused("wind 10 0;", 3, 5);
        refused("wind 0 5;", 3, 7);
    }

    private static void refusedTextLeavesAll() {
        check.promise(4, "text: that which was told stays");
        VoiceFall x = Check.told("plain 11 1 4 0;wall 31;wind 2 0;hearer 22;");
        x.see(0, 21);
        x.keep(1);
        check.due("text with a FAULT", Check.tell(x, "wall 0;wall 8;"), -22);
        check.due("fault()", x.fault(), 3);
        check.due("SAYINGS stay", x.saying(0, 1), 11);
        check.due("WALLS stay", x.wall(31), 1);
        check.due("WALLS read in vain", x.wall(0), 0);
        check.due("WINDS stay", x.rule(3), 4);
        check.due("HEARERS stay", x.hearer(0), 22);
        check.due("SEEN stay", x.count(0), 1);
        check.due("IMAGES stay", x.count(1), 1);
        check.due("text of an empty TAPE", x.text(), 0);
        check.promise(5, "fault");
        check.due("fault() of the latest", x.fault(), 0);
    }

    private static void takenTextReplacesAll() {
        check.promise(4, "text: tells all, in place of what there was");
        VoiceFall x = Check.told("plain 11 1 4 0;wall 31;wind 2 0;hearer 22;");
        x.see(0, 21);
        x.keep(0);
        x.keep(1);
        x.sheet(0, 2, 7);
        check.due("another text", Check.tell(x, "small 0 0 3 1;wall 40;wind 3 1;"), 3);
        check.due("rule(0)", x.rule(0), 1);
        check.due("saying(0, 0)", x.saying(0, 0), 1);
        check.due("rule(1)", x.rule(1), 0);
        check.due("rule(2)", x.rule(2), 1);
        check.due("wall(31)", x.wall(31), 0);
        check.due("wall(40)", x.wall(40), 1);
        check.due("rule(3)", x.rule(3), 8);
        check.due("wind(2)", x.wind(2), 4);
        check.due("nothing is SEEN", x.count(0), 0);
        check.due("IMAGES are gone", x.count(1), 0);
        check.due("back(0)", x.back(0), VoiceFall.STATE);
        check.due("keep(0)", x.keep(0), 0);
        check.due("SHEETS stay", x.count(3), 7);
        check.due("an HOUR told by the text ahead", Check.tell(x, "wind 3 2;"), 1);
        check.due("wind(3)", x.wind(3), 2);
        check.due("an empty text", x.text(), 0);
        check.due("tells nothing", x.rule(0) + x.rule(2) + x.rule(3), 0);
    }

    private static void whatIsTold() {
        check.promise(7, "saying");
        VoiceFall x = Check.told("plain 11 1 4 0;small 55 2 5 2;sermon 30 0 1 1;proposal 37 3 9 9;wall 31;wind 2 0;wind 9 4;wind 3 3;hearer 22;hearer 52;");
        int[][] due = {{0, 11, 1, 4, 0, 4}, {1, 55, 2, 5, 2, 3}, {2, 30, 0, 1, 1, 0}, {3, 37, 3, 9, 9, 10}};
        for (int s = 0; s < 4; s++) {
            for (int what = 0; what < 6; what++) {
                check.due("saying(" + s + ", " + what + ")", x.saying(s, what), due[s][what]);
            }
            check.due("saying(" + s + ", 6)", x.saying(s, 6), VoiceFall.BAD);
            check.due("saying(" + s + ", -1)", x.saying(s, -1), VoiceFall.BAD);
        }
        check.due("saying(4, 0)", x.saying(4, 0), VoiceFall.BAD);
        check.due("saying(-1, 0)", x.saying(-1, 0), VoiceFall.BAD);
        check.promise(6, "rule");
        check.due("rule(0)", x.rule(0), 4);
        check.due("rule(1)", x.rule(1), 2);
        check.due("rule(2)", x.rule(2), 1);
        check.due("rule(3)", x.rule(3), 12);
        check.due("rule(4)", x.rule(4), VoiceFall.BAD);
        check.due("rule(-1)", x.rule(-1), VoiceFall.BAD);
        check.promise(8, "hearer");
        check.due("hearer(0)", x.hearer(0), 22);
        check.due("hearer(1)", x.hearer(1), 52);
        check.due("hearer(2)", x.hearer(2), VoiceFall.BAD);
        check.due("hearer(-1)", x.hearer(-1), VoiceFall.BAD);
        check.promise(9, "wall");
        check.due("wall(31)", x.wall(31), 1);
        check.due("wall(13)", x.wall(13), 0);
        check.due("wall(8)", x.wall(8), VoiceFall.BAD);
        check.promise(10, "wind");
        check.due("wind(2)", x.wind(2), 0);
        check.due("wind(3)", x.wind(3), 3);
        check.due("wind(9)", x.wind(9), 4);
        check.due("wind(10)", x.wind(10), VoiceFall.BAD);
        check.due("wind(-1)", x.wind(-1), VoiceFall.BAD);
        check.promise(7, "saying: REACH");
        int[][] reaches = {{1, 2, 3, 4, 5, 6, 7, 8, 9}, {1, 1, 2, 2, 3, 3, 4, 4, 5}, {0, 1, 2, 3, 4, 5, 6, 7, 8}, {2, 2, 4, 4, 6, 6, 8, 8, 10}};
        for (int kind = 0; kind < 4; kind++) {
            for (int force = 1; force <= 9; force++) {
                x.alter(0, 0, kind);
                x.alter(0, 3, force);
                check.due("REACH of KIND " + kind + " by FORCE " + force, x.saying(0, 5), reaches[kind][force - 1]);
            }
        }
    }
}
