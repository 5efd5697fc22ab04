/** Promises 36 to 42: keep, back, sheet, lay, read, torn, count. */
final class SheetTest {
    private static final Check check = Check.begin();

    public static void main(String[] args) {
        images();
        sheetAndLay();
        lanes();
        read();
        torn();
        refusedRead();
        count();
        check.finish(36, 42);
    }

    private static void images() {
        check.promise(36, "keep, and back");
        VoiceFall x = Check.told("plain 11 1 4 0;wall 31;wind 2 0;hearer 22;");
        check.due("keep(2)", x.keep(2), VoiceFall.BAD);
        check.due("keep(-1)", x.keep(-1), VoiceFall.BAD);
        check.due("back(2)", x.back(2), VoiceFall.BAD);
        check.due("back(-1)", x.back(-1), VoiceFall.BAD);
        check.due("back(0)", x.back(0), VoiceFall.STATE);
        x.see(0, 21);
        x.sheet(0, 0, 3);
        Check.feed(x, "xy");
        check.due("keep(0)", x.keep(0), 0);
        check.due("count(1)", x.count(1), 1);
        x.say(0, 0, 1);
        x.alter(0, 0, 3);
        x.build(31, false);
        x.build(32, true);
        x.blow(2, 4);
        x.stand(0, 0);
        x.forget(0);
        x.sheet(0, 0, 5);
        x.feed(32);
        check.due("keep(1)", x.keep(1), 0);
        check.promise(37, "back");
        check.due("back(0)", x.back(0), 1);
        check.due("KIND", x.saying(0, 0), 0);
        check.due("WALL", x.wall(31), 1);
        check.due("WALL", x.wall(32), 0);
        check.due("WIND", x.wind(2), 0);
        check.due("HEARER", x.hearer(0), 22);
        check.due("SEEN", x.count(0), 1);
        check.due("SEEN", x.forces(0), 1022);
        check.due("SHEETS are no part of it", x.count(3), 5);
        check.due("nor is THE TAPE", x.count(2), 3);
        x.alter(0, 3, 9);
        check.due("back(0) again: an IMAGE stays", x.back(0), 1);
        check.due("FORCE", x.saying(0, 3), 4);
        check.due("back(1)", x.back(1), 2);
        check.due("KIND", x.saying(0, 0), 3);
        check.due("count(1)", x.count(1), 2);
        check.due("keep(0) again", x.keep(0), 1);
        check.due("back(0)", x.back(0), 2);
    }

    private static void sheetAndLay() {
        check.promise(38, "sheet, and lay");
        VoiceFall x = new VoiceFall();
        check.due("sheet(4, 0, 1)", x.sheet(4, 0, 1), VoiceFall.BAD);
        check.due("sheet(-1, 0, 1)", x.sheet(-1, 0, 1), VoiceFall.BAD);
        check.due("sheet(0, 3, 1)", x.sheet(0, 3, 1), VoiceFall.BAD);
        check.due("sheet(0, -1, 1)", x.sheet(0, -1, 1), VoiceFall.BAD);
        check.due("sheet(0, 0, 41)", x.sheet(0, 0, 41), VoiceFall.BAD);
        check.due("sheet(0, 0, -1)", x.sheet(0, 0, -1), -14);
        check.due("sheet(0, 3, -1)", x.sheet(0, 3, -1), VoiceFall.BAD);
        check.due("sheet(4, 0, -1)", x.sheet(4, 0, -1), VoiceFall.BAD);
        check.due("count(3)", x.count(3), VoiceFall.NONE);
        check.due("lay(0, 0, 0)", x.lay(0, 0, 0), -11);
        check.due("lay(0, -1, 0)", x.lay(0, -1, 0), -11);
        check.due("lay(4, 0, 0)", x.lay(4, 0, 0), VoiceFall.BAD);
        check.due("lay(-1, 0, 0)", x.lay(-1, 0, 0), VoiceFall.BAD);
        check.due("sheet(0, 0, 0)", x.sheet(0, 0, 0), 1);
        check.due("count(3)", x.count(3), 0);
        check.due("lay(0, 0, 0)", x.lay(0, 0, 0), -12);
        check.due("sheet(0, 2, 40)", x.sheet(0, 2, 40), 1);
        check.due("lay(0, 39, 1)", x.lay(0, 39, 1), 1);
        check.due("lay(0, 40, 1)", x.lay(0, 40, 1), -12);
        check.due("lay(0, -1, 1)", x.lay(0, -1, 1), -12);
        check.due("sheet(0, 0, -1)", x.sheet(0, 0, -1), -14);
        check.due("it stays", x.count(3), 40);
    }

    /** 513 is 1 in a byte; 65537 is 1 in a short; a new row is 0 again. */
    private static void lanes() {
        check.promise(39, "lay: its lowest bits");
        int[] force = {256 * 7 + 3, 65536 * 7 + 3, 3};
        for (int lane = 0; lane < 3; lane++) {
            VoiceFall x = new VoiceFall();
            x.sheet(1, lane, 3);
            x.lay(1, 0, 12);
            x.lay(1, 1, 2);
            check.due("lay", x.lay(1, 2, force[lane]), 1);
            check.due("read by lane " + lane, x.read(1, lane, 0, 1), 1);
            check.due("FROM", x.saying(0, 1), 12);
            check.due("WAY", x.saying(0, 2), 2);
            check.due("FORCE", x.saying(0, 3), 3);
            for (int other = 0; other < 3; other++) {
                if (other != lane) {
                    check.due("read by another lane", x.read(1, other, 0, 1), 0);
                    check.due("torn()", x.torn(), 3);
                }
            }
            x.lay(1, 2, -1);
            check.due("a FORCE below 0", x.read(1, lane, 0, 1), -20);
            x.lay(1, 2, lane == 0 ? 128 : lane == 1 ? 32768 : Integer.MIN_VALUE);
            check.due("a FORCE below 0", x.read(1, lane, 0, 1), -20);
            x.sheet(1, lane, 3);
            check.due("a new row is 0", x.read(1, lane, 0, 1), -20);
            x.lay(1, 2, 1);
            check.due("a new row is 0", x.read(1, lane, 0, 1), 1);
            check.due("FROM", x.saying(1, 1), 0);
        }
        VoiceFall x = new VoiceFall();
        x.sheet(0, 1, 3);
        x.lay(0, 2, 256 + 3);
        check.due("a short holds more than a byte", x.read(0, 1, 0, 1), -20);
        x.sheet(0, 2, 3);
        x.lay(0, 2, 65536 + 3);
        check.due("an int holds more than a short", x.read(0, 2, 0, 1), -20);
    }

    private static VoiceFall rows(int lane, int size, int... cells) {
        VoiceFall x = new VoiceFall();
        x.sheet(2, lane, size);
        for (int i = 0; i < cells.length; i++) {
            x.lay(2, i, cells[i]);
        }
        return x;
    }

    private static void read() {
        check.promise(40, "read");
        VoiceFall x = rows(1, 9, 11, 0, 1, 22, 1, 2, 33, 2, 3);
        check.due("read(4, ..)", x.read(4, 1, 0, 1), VoiceFall.BAD);
        check.due("read(-1, ..)", x.read(-1, 1, 0, 1), VoiceFall.BAD);
        check.due("lane 3", x.read(2, 3, 0, 1), VoiceFall.BAD);
        check.due("lane -1", x.read(2, -1, 0, 1), VoiceFall.BAD);
        check.due("n 14", x.read(2, 1, 0, 14), VoiceFall.BAD);
        check.due("n -1", x.read(2, 1, 0, -1), VoiceFall.BAD);
        check.due("n 0", x.read(2, 1, 0, 0), 0);
        check.due("n 3", x.read(2, 1, 0, 3), 3);
        for (int s = 0; s < 3; s++) {
            check.due("KIND", x.saying(s, 0), 0);
            check.due("FROM", x.saying(s, 1), 11 * (s + 1));
            check.due("WAY", x.saying(s, 2), s);
            check.due("FORCE", x.saying(s, 3), s + 1);
            check.due("HOUR", x.saying(s, 4), 0);
        }
        check.due("from CELL 3 on", x.read(2, 1, 3, 1), 1);
        check.due("FROM", x.saying(3, 1), 22);
        check.due("rule(0)", x.rule(0), 4);
    }

    private static void torn() {
        check.promise(41, "torn");
        VoiceFall x = rows(0, 8, 11, 0, 1, 22, 1, 2, 33, 2);
        check.due("the third is not whole", x.read(2, 0, 0, 3), 2);
        check.due("torn()", x.torn(), 2);
        check.due("rule(0)", x.rule(0), 2);
        check.due("the third is not whole, n 13", x.read(2, 0, 3, 13), 1);
        check.due("torn()", x.torn(), 2);
        check.due("a read() that is whole", x.read(2, 0, 0, 1), 1);
        check.due("torn()", x.torn(), 0);
        check.due("f -1", x.read(2, 0, -1, 1), 0);
        check.due("torn()", x.torn(), 2);
        check.due("f at the most", x.read(2, 0, Integer.MAX_VALUE, 13), 0);
        check.due("f at the least", x.read(2, 0, Integer.MIN_VALUE, 13), 0);
        check.due("torn()", x.torn(), 2);
        check.due("nothing, and another lane", x.read(3, 1, 99, 1), 0);
        check.due("torn()", x.torn(), 1);
        check.due("another lane, and no CELL", x.read(2, 1, 99, 1), 0);
        check.due("torn()", x.torn(), 3);
        check.due("BAD leaves torn()", x.read(9, 1, 99, 1), VoiceFall.BAD);
        check.due("torn()", x.torn(), 3);
        check.due("n 0 reads nothing", x.read(2, 1, 99, 0), 0);
        check.due("torn()", x.torn(), 0);
        check.due("rule(0)", x.rule(0), 4);
    }

    private static void refusedRead() {
        check.promise(40, "read: refused by say()");
        VoiceFall x = rows(2, 8, 11, 0, 1, 22, 4, 2, 88, 2);
        x.read(2, 0, 0, 1);
        check.due("the second is refused", x.read(2, 2, 0, 3), -21);
        check.due("then none came", x.rule(0), 0);
        check.due("torn() is of another", x.torn(), 3);
        check.due("whole ahead of the refused one", x.read(2, 2, 0, 1), 1);
        check.due("one that is not whole is not refused", x.read(2, 2, 6, 1), 0);
        check.due("torn()", x.torn(), 2);
        x = rows(2, 39, 11, 0, 1, 22, 1, 2, 33, 2, 3, 44, 3, 4, 55, 0, 5, 66, 1, 6);
        check.due("the 6th SAYING", x.read(2, 2, 0, 6), -25);
        check.due("then none came", x.rule(0), 0);
        check.due("five", x.read(2, 2, 0, 5), 5);
        check.due("none more", x.read(2, 2, 0, 1), -20);
        check.due("rule(0)", x.rule(0), 5);
    }

    private static void count() {
        check.promise(42, "count");
        VoiceFall x = Check.told("plain 0 0 9 0;small 0 0 7 0;");
        check.due("count(4)", x.count(4), 16);
        x.see(0, 0);
        x.see(1, 0);
        check.due("count(0)", x.count(0), 2);
        x.keep(1);
        check.due("count(1)", x.count(1), 1);
        x.keep(1);
        check.due("count(1)", x.count(1), 1);
        x.feed(1);
        check.due("count(2)", x.count(2), 1);
        x.sheet(1, 0, 9);
        check.due("count(3) is of SHEET 0", x.count(3), VoiceFall.NONE);
        x.sheet(0, 0, 8);
        check.due("count(3)", x.count(3), 8);
        check.due("count(5)", x.count(5), VoiceFall.BAD);
        check.due("count(-1)", x.count(-1), VoiceFall.BAD);
    }
}
