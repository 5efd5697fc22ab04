/** Promises 1 to 10, sentence by sentence: what is too small, too large, empty, full, refused. */
final class TextEdgesTest {
    private static final Check check = Check.begin();
    private static final int BAD = VoiceFall.BAD, STATE = VoiceFall.STATE, FULL = VoiceFall.FULL, NONE = VoiceFall.NONE;

    /** A sound line of each sort; its TOKENS stand one blank apart. */
    private static final String[] LINES = {"plain 11 1 4 0 ;", "small 55 2 5 2 ;", "sermon 30 0 4 1 ;", "proposal 37 2 5 3 ;", "wall 31 ;",
        "wind 2 0 ;", "hearer 22 ;"};
    private static final String TWELVE_WALLS = "wall0;wall1;wall2;wall3;wall4;wall5;wall6;wall7;wall10;wall11;wall12;wall13;";
    private static final String FIVE_SAYINGS = "plain0 0 1 0;small0 0 1 0;sermon0 0 1 0;proposal0 0 1 0;plain0 0 1 0;";
    private static final String FOUR_HEARERS = "hearer0;hearer0;hearer77;hearer7;";

    public static void main(String[] args) {
        newObject();
        bytes();
        fullTape();
        ends();
        emptyText();
        everyByte();
        tokensAsLongAsMayBe();
        everyCut();
        nearlyNames();
        everyMisplacedToken();
        everyNumber();
        tooLongNumbers();
        toldAlready();
        tooMany();
        firstMet();
        refusedText();
        takenText();
        latestFault();
        rules();
        sayings();
        reaches();
        hearers();
        walls();
        winds();
        check.finish(1, 10);
    }

    private static void newObject() {
        VoiceFall x = new VoiceFall();
        check.promise(1, "No WALLS");
        check.due("rule(2)", x.rule(2), 0);
        check.due("sum(1)", x.sum(1), 0);
        for (int place = 0; place < 64; place++) {
            check.due("wall", x.wall(place / 8 * 10 + place % 8), 0);
        }
        check.promise(1, "no SAYINGS");
        check.due("rule(0)", x.rule(0), 0);
        check.due("saying(0, 0)", x.saying(0, 0), BAD);
        check.due("drift(1, 1, 0)", x.drift(1, 1, 0), STATE);
        check.promise(1, "nobody");
        check.due("rule(1)", x.rule(1), 0);
        check.due("hearer(0)", x.hearer(0), BAD);
        check.promise(1, "WINDS are still at first");
        check.due("rule(3)", x.rule(3), 0);
        for (int hour = 0; hour < 10; hour++) {
            check.due("wind(" + hour + ")", x.wind(hour), 4);
        }
        check.promise(1, "SHEETS of nothing");
        check.due("count(3)", x.count(3), NONE);
        for (int k = 0; k < 4; k++) {
            check.due("lay(" + k + ", 0, 0)", x.lay(k, 0, 0), -11);
            for (int lane = 0; lane < 3; lane++) {
                check.due("read(" + k + ", " + lane + ", 0, 1)", x.read(k, lane, 0, 1), 0);
                check.due("torn()", x.torn(), 1);
            }
        }
        newObjectBeside();
    }

    private static void newObjectBeside() {
        VoiceFall x = Check.told("plain 0 0 1 0;wall 1;wind 0 0;hearer 2;");
        x.see(0, 0);
        x.keep(0);
        x.sheet(0, 0, 1);
        x.feed('?');
        x.text();
        x.feed(32);
        VoiceFall y = new VoiceFall();
        check.promise(1, "A new object has nothing of another one");
        check.due("fault()", y.fault(), 0);
        check.due("torn()", y.torn(), 0);
        check.due("back(0)", y.back(0), STATE);
        check.due("back(1)", y.back(1), STATE);
        int[] counts = {0, 0, 0, NONE, 0};
        for (int what = 0; what < 5; what++) {
            check.due("count(" + what + ")", y.count(what), counts[what]);
        }
        for (int what = 0; what < 4; what++) {
            check.due("rule(" + what + ")", y.rule(what), 0);
        }
    }

    private static void bytes() {
        check.promise(2, "A byte (0 to 127)");
        VoiceFall x = new VoiceFall();
        check.due("feed(0)", x.feed(0), 1);
        check.due("feed(127)", x.feed(127), 2);
        check.bad("feed", x::feed, -1, 128, 255, 256, 256 + 'a', 65536 + 'a', -128, Integer.MIN_VALUE, Integer.MAX_VALUE);
        check.due("a refused byte is not on THE TAPE", x.count(2), 2);
        check.due("feed(1)", x.feed(1), 3);
        check.promise(2, "comes behind THE TAPE");
        x = new VoiceFall();
        Check.feed(x, "wall");
        x.feed(-1);
        x.feed(128 + 'x');
        Check.feed(x, " 7;");
        check.due("text()", x.text(), 1);
        check.due("wall(7)", x.wall(7), 1);
        check.due("feed behind text()", x.feed(32), 1);
    }

    private static void fullTape() {
        VoiceFall x = new VoiceFall();
        check.promise(2, "how many it has");
        String tape = " ".repeat(153) + "wall 1;";
        for (int i = 0; i < 160; i++) {
            check.due("byte " + (i + 1), x.feed(tape.charAt(i)), i + 1);
        }
        check.promise(2, "FULL: more than 160");
        check.due("the 161st", x.feed('?'), FULL);
        check.due("and again", x.feed('?'), FULL);
        check.due("count(2)", x.count(2), 160);
        check.promise(2, "BAD is the first that fits");
        check.bad("the 161st", x::feed, -1, 128);
        check.promise(2, "what is refused changes nothing");
        check.due("text() of the first 160", x.text(), 1);
        check.due("wall(1)", x.wall(1), 1);
        Check.feed(x, "?".repeat(160));
        check.promise(2, "there is room again");
        check.due("end(159)", x.end(159), 160);
        check.due("the 160th again", x.feed(32), 160);
        check.due("the 161st", x.feed(32), FULL);
        x.text();
        check.due("behind a refused text()", x.feed(32), 1);
    }

    private static void ends() {
        VoiceFall x = new VoiceFall();
        check.promise(3, "of an empty TAPE");
        check.due("end(0)", x.end(0), 0);
        check.bad("end", x::end, 1, -1, 160, 161, Integer.MIN_VALUE, Integer.MAX_VALUE);
        check.promise(3, "keeps its first n bytes");
        Check.feed(x, "wall 1;wall 22;?");
        check.due("end(16): all", x.end(16), 16);
        check.due("end(15)", x.end(15), 16);
        check.promise(3, "BAD, and THE TAPE stays");
        check.bad("end", x::end, 16, -1, 160, Integer.MIN_VALUE, Integer.MAX_VALUE);
        check.due("count(2)", x.count(2), 15);
        check.promise(3, "keeps its first n bytes");
        check.due("text()", x.text(), 2);
        check.due("wall(22)", x.wall(22), 1);
        Check.feed(x, "wall 1;");
        check.due("end(0): none", x.end(0), 7);
        check.due("count(2)", x.count(2), 0);
        check.due("what was cut does not come again", x.end(1), BAD);
        Check.feed(x, "wall 6;xx");
        x.end(5);
        Check.feed(x, "3;");
        check.due("text() of what came behind", x.text(), 1);
        check.due("wall(3)", x.wall(3), 1);
        check.due("wall(6)", x.wall(6), 0);
        Check.feed(x, " ".repeat(160));
        check.promise(3, "of a full TAPE");
        check.bad("end", x::end, 161, -1);
        check.due("end(160)", x.end(160), 160);
        check.due("end(1)", x.end(1), 160);
        check.due("end(1)", x.end(1), 1);
    }

    private static void taken(String tape, int lines) {
        VoiceFall x = new VoiceFall();
        check.due("text() of '" + tape + "'", Check.tell(x, tape), lines);
        check.due("fault() of '" + tape + "'", x.fault(), 0);
        check.due("THE TAPE is empty then", x.count(2), 0);
    }

    private static void refused(String tape, int fault, int place) {
        VoiceFall x = new VoiceFall();
        check.due("text() of '" + tape + "'", Check.tell(x, tape), -10 - place);
        check.due("fault() of '" + tape + "'", x.fault(), fault);
        check.due("THE TAPE is empty then", x.count(2), 0);
    }

    private static void emptyText() {
        check.promise(4, "{ line }: none");
        taken("", 0);
        taken(" ", 0);
        taken(" ".repeat(160), 0);
        check.promise(4, "{ line }: as many as THE TAPE holds");
        taken(FIVE_SAYINGS + FOUR_HEARERS, 9);
        String most = TWELVE_WALLS + FOUR_HEARERS + "wind0 0;wind1 1;wind2 2;wind3 3;wind4 4;";
        taken(most, 21);
        taken(" ".repeat(160 - most.length()) + most, 21);
        check.promise(4, "-10 less the place: places from 0, the end is the length");
        refused("?", 1, 0);
        refused(" ".repeat(159) + "?", 1, 159);
        refused(" ".repeat(156) + "wall", 2, 160);
        refused("wall" + " ".repeat(156), 2, 160);
        refused("a".repeat(160), 2, 0);
    }

    private static void everyByte() {
        check.promise(4, "TOKENS: NAMES (a .. z), NUMBERS, one ; with blanks (32) between");
        for (int c = 0; c < 128; c++) {
            boolean token = c >= 'a' && c <= 'z' || c >= '0' && c <= '9' || c == ';';
            if (c == ' ') {
                taken(" ", 0);
                refused("wall 1 ", 2, 7);
            } else if (!token) {
                refused("" + (char) c, 1, 0);
                refused("wall 1" + (char) c, 1, 6);
                refused("wall" + (char) c + "1;", 1, 4);
            } else {
                refused("" + (char) c, 2, 0);
            }
        }
        for (char c = 'a'; c <= 'z'; c++) {
            refused("wall 1" + c, 2, 6);
            refused("wall" + c + " 1;", 2, 0);
            refused(c + "wall 1;", 2, 0);
        }
        for (char c = '0'; c <= '7'; c++) {
            refused("wall 1" + c, 2, 7);
            taken("wall 1" + c + ";", 1);
            taken("wall" + c + ";", 1);
        }
    }

    private static void tokensAsLongAsMayBe() {
        check.promise(4, "TOKENS, each as long as may be");
        refused("wallwall 1;", 2, 0);
        refused("wall 1 1;", 2, 7);
        refused("wall 1;;", 2, 7);
        refused("wind 12;", 3, 5);
        refused("plain 1111 4 0;", 1, 6);
        check.promise(4, "blanks between: where none is needed, none or many");
        taken("wall1;wall2;", 2);
        taken("   wall   1   ;   wall   2   ;   ", 2);
        taken("plain11 1 4 0;", 1);
    }

    /** Each line cut behind each of its bytes: inside its NAME the NAME begins no line, behind it the end can't stand. */
    private static void everyCut() {
        check.promise(4, "FAULT 2: a NAME that begins no line; or the end: the length");
        for (String line : LINES) {
            int name = line.indexOf(' ');
            for (int cut = 1; cut < line.length(); cut++) {
                refused(line.substring(0, cut), 2, cut < name ? 0 : cut);
                refused("wall 77;  " + line.substring(0, cut), 2, 10 + (cut < name ? 0 : cut));
            }
            taken(line, 1);
            taken(line.replace(" ;", ";"), 1);
        }
    }

    private static void nearlyNames() {
        check.promise(4, "FAULT 2: a NAME that begins no line: one letter is another one");
        for (String line : LINES) {
            int name = line.indexOf(' ');
            for (int i = 0; i < name; i++) {
                refused(line.substring(0, i) + 'q' + line.substring(i + 1), 2, 0);
            }
        }
    }

    private static void everyMisplacedToken() {
        check.promise(4, "FAULT 2: a TOKEN that can not stand there");
        for (String line : LINES) {
            String[] tokens = line.split(" ");
            int place = 0;
            for (int i = 0; i < tokens.length; i++) {
                String ahead = line.substring(0, place);
                for (String token : new String[] {"plain", "wall", "x", "1", ";"}) {
                    boolean number = token.equals("1");
                    boolean stop = token.equals(";");
                    boolean stands = i == 0 ? token.equals("plain") || token.equals("wall") : i == tokens.length - 1 ? stop : number;
                    if (!stands) {
                        refused(ahead + token, 2, place);
                        refused(ahead + token + " ?", 2, place);
                    }
                }
                place += tokens[i].length() + 1;
            }
        }
    }

    private static boolean fits(String line, int slot, int v) {
        boolean cell = v / 10 <= 7 && v % 10 <= 7;
        if (line.startsWith("wind")) {
            return slot == 1 ? v <= 9 : v <= 4;
        }
        switch (slot) {
            case 1: return cell;
            case 2: return v <= 3;
            case 3: return v >= 1 && v <= 9;
            default: return v <= 9;
        }
    }

    /** Each NUMBER of each line is every one of 0 to 99 once, told by one figure, by two. */
    private static void everyNumber() {
        check.promise(4, "FAULT 3: a NUMBER out of its bounds (a CELL: tens, ones 0 to 7)");
        for (String line : LINES) {
            String[] tokens = line.split(" ");
            int place = tokens[0].length() + 1;
            for (int slot = 1; slot < tokens.length - 1; slot++) {
                String ahead = line.substring(0, place);
                String behind = line.substring(place + tokens[slot].length());
                for (int v = 0; v < 110; v++) {
                    String number = v < 100 ? "" + v : "0" + (v - 100);
                    if (fits(line, slot, v % 100)) {
                        taken(ahead + number + behind, 1);
                    } else {
                        refused(ahead + number + behind, 3, place);
                        refused(ahead + number + "?", 3, place);
                    }
                }
                place += tokens[slot].length() + 1;
            }
        }
    }

    private static void tooLongNumbers() {
        check.promise(4, "FAULT 1: a NUMBER that is too long (its first byte)");
        for (String number : new String[] {"000", "001", "100", "123", "999", "4294967296", "4294967297", "18446744073709551617"}) {
            refused(number, 1, 0);
            refused("wall " + number + ";", 1, 5);
            refused("wall 1 " + number, 1, 7);
            refused("wall 1;" + number, 1, 7);
            refused("plain 0 0 1 " + number + ";", 1, 12);
            refused("wind 0 " + number + ";", 1, 7);
        }
        refused("wall" + "1".repeat(156), 1, 4);
        refused("0".repeat(160), 1, 0);
    }

    private static void toldAlready() {
        check.promise(4, "FAULT 4: a CELL that has a WALL already (it)");
        refused("wall 1;wall 1;", 4, 12);
        refused("wall 1;wall 01;", 4, 12);
        refused("wall 0;wall 7;wall 70;wall 77;wall 77;", 4, 35);
        taken("wall 0;wall 7;wall 70;wall 77;", 4);
        check.promise(4, "FAULT 4: an HOUR whose WIND is told already (it)");
        refused("wind 0 0;wind 0 0;", 4, 14);
        refused("wind 9 4;wind 9 4;", 4, 14);
        refused("wind 9 4;wind 09 3;", 4, 14);
        refused("wind 9 4;wind 8 4;wind 9 3;", 4, 23);
        taken("wind 0 4;wind 1 4;wind 2 4;wind 3 4;wind 4 4;wind 5 4;wind 6 4;wind 7 4;wind 8 4;wind 9 4;", 10);
        check.promise(4, "in place of what there was: a WALL, a WIND of the text ahead is none that is told already");
        VoiceFall x = Check.told("wall 1;wind 1 1;");
        check.due("the same again", Check.tell(x, "wall 1;wind 1 1;"), 2);
        x.build(2, true);
        x.blow(2, 1);
        check.due("what was built, what was blown", Check.tell(x, "wall 2;wind 2 1;"), 2);
        check.due("a refused one", Check.tell(x, "wall 3;wind 3 3;?"), -26);
        check.due("what a refused one told", Check.tell(x, "wall 3;wind 3 3;"), 2);
    }

    private static void tooMany() {
        check.promise(4, "FAULT 5: the 6th SAYING (its NAME)");
        taken(FIVE_SAYINGS, 5);
        for (String kind : new String[] {"plain", "small", "sermon", "proposal"}) {
            refused(FIVE_SAYINGS + " " + kind + " 0 0 1 0;", 5, FIVE_SAYINGS.length() + 1);
            refused(FIVE_SAYINGS + kind, 5, FIVE_SAYINGS.length());
            refused((kind + "0 0 1 0;").repeat(6), 5, 5 * (kind.length() + 8));
            taken((kind + "0 0 1 0;").repeat(5), 5);
        }
        check.promise(4, "FAULT 5: the 13th wall (its NAME)");
        taken(TWELVE_WALLS, 12);
        refused(TWELVE_WALLS + "wall 77;", 5, TWELVE_WALLS.length());
        refused(TWELVE_WALLS + "wall 0;", 5, TWELVE_WALLS.length());
        refused(TWELVE_WALLS + "  wall", 5, TWELVE_WALLS.length() + 2);
        check.promise(4, "FAULT 5: the 5th hearer (its NAME)");
        taken(FOUR_HEARERS, 4);
        refused(FOUR_HEARERS + "hearer 0;", 5, FOUR_HEARERS.length());
        refused(FOUR_HEARERS + " hearer", 5, FOUR_HEARERS.length() + 1);
        check.promise(4, "what there was does not count for FAULT 5");
        VoiceFall x = Check.told(FIVE_SAYINGS + FOUR_HEARERS);
        check.due("as many again", Check.tell(x, FIVE_SAYINGS + FOUR_HEARERS), 9);
        check.due("12 WALLS", Check.tell(x, TWELVE_WALLS), 12);
        check.due("12 WALLS again", Check.tell(x, TWELVE_WALLS), 12);
    }

    private static void firstMet() {
        check.promise(4, "FAULTS, the first met as it is read (a TOKEN is read when the one before has been taken)");
        refused("walls ?", 2, 0);
        refused("? walls", 1, 0);
        refused("wall 8 ?", 3, 5);
        refused("wall 8?", 3, 5);
        refused("wall ? 8", 1, 5);
        refused("wall 123 8", 1, 5);
        refused("wall 1;wall 1?", 4, 12);
        refused("wall 1;wall 8 1", 3, 12);
        refused("wind 0 0;wind 0 5;", 4, 14);
        refused("wind 0 0;wind 0 ?", 4, 14);
        refused("wind 10 5;", 3, 5);
        refused(FIVE_SAYINGS + "plain ?", 5, FIVE_SAYINGS.length());
        refused(FIVE_SAYINGS + "plain 99", 5, FIVE_SAYINGS.length());
        refused(FIVE_SAYINGS + "plains", 2, FIVE_SAYINGS.length());
        refused(FIVE_SAYINGS + "?", 1, FIVE_SAYINGS.length());
        refused(TWELVE_WALLS + "wall 0;", 5, TWELVE_WALLS.length());
        refused(TWELVE_WALLS + "wall 8;", 5, TWELVE_WALLS.length());
        refused(FOUR_HEARERS + "hearer ;", 5, FOUR_HEARERS.length());
    }

    private static VoiceFall rich() {
        VoiceFall x = Check.told("small 11 1 4 7;wall 31;wind 2 0;hearer 22;");
        x.see(0, 21);
        x.keep(1);
        x.sheet(0, 1, 3);
        x.read(0, 0, 0, 1);
        return x;
    }

    private static void refusedText() {
        for (String tape : new String[] {"wall 0;?", "plain 0 0 1 0;wall 8;", "wind 0 0;wind 0", "hearer 1;hearer 2;;", FOUR_HEARERS + "hearer"}) {
            VoiceFall x = rich();
            check.promise(4, "-10 less the place of its FAULT: that which was told stays");
            check.that("text() of " + tape, Check.tell(x, tape) <= -10);
            int[] rules = {1, 1, 1, 4};
            for (int what = 0; what < 4; what++) {
                check.due("rule(" + what + ")", x.rule(what), rules[what]);
            }
            int[] parts = {1, 11, 1, 4, 7, 2};
            for (int what = 0; what < 6; what++) {
                check.due("saying(0, " + what + ")", x.saying(0, what), parts[what]);
            }
            check.due("wall(31)", x.wall(31), 1);
            check.due("wind(2)", x.wind(2), 0);
            check.due("hearer(0)", x.hearer(0), 22);
            check.due("SEEN", x.count(0), 1);
            check.due("IMAGES", x.count(1), 1);
            check.due("back(1)", x.back(1), 1);
            check.promise(4, "THE TAPE (empty then)");
            check.due("count(2)", x.count(2), 0);
        }
    }

    private static void takenText() {
        for (String tape : new String[] {"", "   ", "wall 5;", "plain 0 0 1 0;"}) {
            VoiceFall x = rich();
            check.promise(4, "A text that is taken tells all, in place of what there was");
            check.due("text() of " + tape, Check.tell(x, tape), tape.isBlank() ? 0 : 1);
            check.due("rule(0)", x.rule(0), tape.startsWith("plain") ? 1 : 0);
            check.due("rule(1)", x.rule(1), 0);
            check.due("rule(2)", x.rule(2), tape.startsWith("wall") ? 1 : 0);
            check.due("rule(3)", x.rule(3), 0);
            check.due("wind(2)", x.wind(2), 4);
            check.promise(4, "nothing is SEEN");
            check.due("count(0)", x.count(0), 0);
            check.promise(4, "IMAGES are gone");
            check.due("count(1)", x.count(1), 0);
            check.due("back(1)", x.back(1), STATE);
            check.promise(4, "SHEETS, and what was torn, are no part of it");
            check.due("count(3)", x.count(3), 3);
            check.due("torn()", x.torn(), 3);
        }
    }

    private static void latestFault() {
        check.promise(5, "The FAULT of the latest text(); 0");
        VoiceFall x = new VoiceFall();
        check.due("ahead of all", x.fault(), 0);
        String[] tapes = {"?", ";", "wall 8;", "wall 1;wall 1;", FOUR_HEARERS + "hearer 0;"};
        for (int i = 0; i < 5; i++) {
            Check.feed(x, tapes[i]);
            check.due("not yet", x.fault(), i);
            x.text();
            check.due("fault()", x.fault(), i + 1);
            check.due("and again", x.fault(), i + 1);
        }
        Check.feed(x, "?");
        x.end(0);
        x.build(8, true);
        check.due("of no other call", x.fault(), 5);
        x.text();
        check.due("of an empty text", x.fault(), 0);
    }

    private static void rules() {
        check.promise(6, "BAD");
        VoiceFall x = new VoiceFall();
        check.bounds("rule", x::rule, 0, 3);
        check.promise(6, "HOURS that are not still (bits)");
        for (int hour = 0; hour < 10; hour++) {
            x.blow(hour, hour % 4);
            check.due("rule(3)", x.rule(3), (2 << hour) - 1);
        }
        x.blow(0, 4);
        check.due("rule(3)", x.rule(3), 1022);
        check.promise(6, "SAYINGS, HEARERS, WALLS: as many as there may be");
        x = Check.told(FIVE_SAYINGS + FOUR_HEARERS);
        check.due("rule(0)", x.rule(0), 5);
        check.due("rule(1)", x.rule(1), 4);
        x = Check.told(TWELVE_WALLS);
        check.due("rule(2)", x.rule(2), 12);
    }

    private static void sayings() {
        check.promise(7, "BAD: of none");
        VoiceFall none = new VoiceFall();
        check.bad("saying(s, 0)", s -> none.saying(s, 0), -1, 0, 1, 4, 5, Integer.MIN_VALUE, Integer.MAX_VALUE);
        check.promise(7, "BAD");
        VoiceFall x = Check.told(FIVE_SAYINGS);
        check.bounds("saying(s, 0)", s -> x.saying(s, 0), 0, 4);
        check.bounds("saying(s, 5)", s -> x.saying(s, 5), 0, 4);
        check.bounds("saying(4, what)", what -> x.saying(4, what), 0, 5);
        VoiceFall one = Check.told("proposal 77 3 9 9;");
        check.bounds("saying(s, 4)", s -> one.saying(s, 4), 0, 0);
        int[] parts = {3, 77, 3, 9, 9, 10};
        for (int what = 0; what < 6; what++) {
            check.due("saying(0, " + what + ")", one.saying(0, what), parts[what]);
        }
    }

    private static void reaches() {
        int[][] due = {{1, 2, 3, 4, 5, 6, 7, 8, 9}, {1, 1, 2, 2, 3, 3, 4, 4, 5}, {0, 1, 2, 3, 4, 5, 6, 7, 8}, {2, 2, 4, 4, 6, 6, 8, 8, 10}};
        String[] words = {"plain FORCE", "small half of that (up)", "sermon 1 less than a plain one", "proposal twice that of a small one"};
        for (int kind = 0; kind < 4; kind++) {
            check.promise(7, "REACH by KIND: " + words[kind]);
            VoiceFall x = new VoiceFall();
            x.say(0, 0, 1);
            x.alter(0, 0, kind);
            for (int force = 1; force <= 9; force++) {
                x.alter(0, 3, force);
                check.due("by FORCE " + force, x.saying(0, 5), due[kind][force - 1]);
            }
        }
    }

    private static void hearers() {
        check.promise(8, "BAD: nobody");
        VoiceFall none = new VoiceFall();
        check.bad("hearer", none::hearer, -1, 0, 1, 3, 4, Integer.MIN_VALUE, Integer.MAX_VALUE);
        check.promise(8, "BAD");
        VoiceFall x = Check.told(FOUR_HEARERS);
        check.bounds("hearer", x::hearer, 0, 3);
        check.due("hearer(2)", x.hearer(2), 77);
        check.due("hearer(3)", x.hearer(3), 7);
        VoiceFall one = Check.told("hearer 0;");
        check.bounds("hearer", one::hearer, 0, 0);
    }

    private static void walls() {
        check.promise(9, "BAD: no such CELL");
        VoiceFall x = Check.told("wall 0;wall 7;wall 70;wall 77;");
        check.cells("wall", x::wall);
        for (int v = -60; v < 160; v++) {
            boolean cell = v >= 0 && v < 80 && v % 10 < 8;
            boolean corner = v == 0 || v == 7 || v == 70 || v == 77;
            check.due("wall(" + v + ")", x.wall(v), !cell ? BAD : corner ? 1 : 0);
        }
    }

    private static void winds() {
        check.promise(10, "BAD");
        VoiceFall x = Check.told("wind 0 3;wind 9 0;wind 5 4;");
        check.bounds("wind", x::wind, 0, 9);
        check.due("wind(0)", x.wind(0), 3);
        check.due("wind(9)", x.wind(9), 0);
        check.due("wind(5): told to be still", x.wind(5), 4);
        check.due("wind(4): not told", x.wind(4), 4);
    }
}
