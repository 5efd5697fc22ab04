/** Voices on a coast: what is said flies over cells and walls, is borne by winds, and lands. */
public final class VoiceFall {
    public static final int BAD = -1, STATE = -2, FULL = -3, NONE = -4;

    private static final int CELLS = 64, MOST_WALLS = 12, HOURS = 10, WAYS = 4, STILL = 4;
    private static final int MOST_SAYINGS = 5, MOST_HEARERS = 4, MOST_SEEN = 6, IMAGES = 2;
    private static final int TAPE = 160, SHEETS = 4, SHEET_CELLS = 40, LANES = 3, MOST_READ = 13;

    /** What is told of a SAYING, by its number in saying() and alter(); WIND only shares the test of bounds. */
    private static final int KIND = 0, FROM = 1, WAY = 2, FORCE = 3, HOUR = 4, PARTS = 5, WIND = 5;
    private static final int LEAST_FORCE = 1, MOST_FORCE = 9;
    private static final int PLAIN = 0, SMALL = 1, SERMON = 2, PROPOSAL = 3;

    private static final int NULL_FAULT = 1, INDEX_FAULT = 2, CAST_FAULT = 3, SIZE_FAULT = 4;

    private final Reader reader = new Reader();
    private final Coast now = new Coast();
    /** The coast on which a call tries what might be, so that the one that is stays as it is. */
    private final Coast trial = new Coast();
    private final Day day = new Day();
    /** A row of look(), made once: how often each place was come to. */
    private final int[] tally = new int[CELLS];
    private final Coast[] images = new Coast[IMAGES];
    private final boolean[] kept = new boolean[IMAGES];
    private final Sheet[] sheets = new Sheet[SHEETS];
    private int lastTorn;

    public VoiceFall() {
        for (int k = 0; k < IMAGES; k++) {
            images[k] = new Coast();
        }
        for (int k = 0; k < SHEETS; k++) {
            sheets[k] = new Sheet();
        }
    }

    // ---- the text

    public int feed(int c) {
        if (c < 0 || c > 127) {
            return BAD;
        }
        if (reader.size >= TAPE) {
            return FULL;
        }
        reader.tape[reader.size] = (byte) c;
        reader.size++;
        return reader.size;
    }

    public int end(int n) {
        if (n < 0 || n > reader.size) {
            return BAD;
        }
        int had = reader.size;
        reader.size = n;
        return had;
    }

    public int text() {
        int lines = reader.readLines();
        reader.size = 0;
        if (reader.flaw != 0) {
            return -10 - reader.place;
        }
        now.copyFrom(reader.draft);
        for (int k = 0; k < IMAGES; k++) {
            kept[k] = false;
        }
        return lines;
    }

    public int fault() {
        return reader.flaw;
    }

    public int rule(int what) {
        switch (what) {
            case 0:
                return now.sayings;
            case 1:
                return now.hearers;
            case 2:
                return Long.bitCount(now.walls);
            case 3:
                return now.windyHours();
            default:
                return BAD;
        }
    }

    public int saying(int s, int what) {
        if (!now.isSaying(s) || what < 0 || what > PARTS) {
            return BAD;
        }
        if (what == PARTS) {
            return Rules.reachBy(now.told[s][KIND], now.told[s][FORCE]);
        }
        return now.told[s][what];
    }

    public int hearer(int h) {
        return now.isHearer(h) ? now.at[h] : BAD;
    }

    public int wall(int cell) {
        if (!Rules.isCell(cell)) {
            return BAD;
        }
        return Rules.has(now.walls, Rules.placeOf(cell)) ? 1 : 0;
    }

    public int wind(int hour) {
        return Rules.fits(HOUR, hour) ? now.winds[hour] : BAD;
    }

    // ---- what is changed

    public int alter(int s, int what, int v) {
        if (!now.isSaying(s) || what < 0 || what >= PARTS || !Rules.fits(what, v)) {
            return BAD;
        }
        int was = now.told[s][what];
        now.told[s][what] = v;
        return was;
    }

    public int stand(int h, int cell) {
        if (!now.isHearer(h) || !Rules.isCell(cell)) {
            return BAD;
        }
        int was = now.at[h];
        now.at[h] = cell;
        return was;
    }

    public int build(int cell, boolean is) {
        if (!Rules.isCell(cell)) {
            return BAD;
        }
        int place = Rules.placeOf(cell);
        boolean had = Rules.has(now.walls, place);
        if (is && !had && Long.bitCount(now.walls) >= MOST_WALLS) {
            return FULL;
        }
        now.walls = is ? now.walls | 1L << place : now.walls & ~(1L << place);
        return had ? 1 : 0;
    }

    public int blow(int hour, int v) {
        if (!Rules.fits(HOUR, hour) || !Rules.fits(WIND, v)) {
            return BAD;
        }
        int was = now.winds[hour];
        now.winds[hour] = v;
        return was;
    }

    public int say(int from, int way, int force) {
        return now.addPlain(from, way, force);
    }

    // ---- the day

    public int lands(int s, int what) {
        if (!now.isSaying(s) || what < 0 || what > 2) {
            return BAD;
        }
        day.pass(now);
        if (what == 0) {
            return Rules.cellOf(day.place[s]);
        }
        return what == 1 ? day.hour[s] : day.steps[s];
    }

    public int hears(int h) {
        if (!now.isHearer(h)) {
            return BAD;
        }
        day.pass(now);
        return day.landedIn(Rules.placeOf(now.at[h]));
    }

    public int field(int cell, int what) {
        if (!Rules.isCell(cell) || what < 0 || what > 1) {
            return BAD;
        }
        day.pass(now);
        int place = Rules.placeOf(cell);
        if (what == 0) {
            return day.landedIn(place);
        }
        return Rules.has(day.walls, place) ? 1 : 0;
    }

    public int sum(int what) {
        if (what < 0 || what > 3) {
            return BAD;
        }
        day.pass(now);
        switch (what) {
            case 0:
                return day.heard(now);
            case 1:
                return Long.bitCount(day.walls);
            case 2:
                return day.allSteps();
            default:
                return day.hoursOfLanding();
        }
    }

    // ---- what is best

    public int most(int what) {
        if (what < 0 || what > 1) {
            return BAD;
        }
        day.pass(now);
        int best = NONE;
        int heard = NONE;
        for (int place = 0; place < CELLS; place++) {
            int here = Integer.bitCount(day.landedIn(place));
            if (!Rules.has(now.walls, place) && here > heard) {
                best = Rules.cellOf(place);
                heard = here;
            }
        }
        return what == 0 ? best : heard;
    }

    public int aim(int s, int cell) {
        if (!now.isSaying(s) || !Rules.isCell(cell)) {
            return BAD;
        }
        int place = Rules.placeOf(cell);
        trial.copyFrom(now);
        for (int force = LEAST_FORCE; force <= MOST_FORCE; force++) {
            for (int way = 0; way < WAYS; way++) {
                if (placeBy(s, way, force) == place) {
                    return 10 * force + way;
                }
            }
        }
        return NONE;
    }

    public int reach(int s) {
        if (!now.isSaying(s)) {
            return BAD;
        }
        long places = 0;
        trial.copyFrom(now);
        for (int force = LEAST_FORCE; force <= MOST_FORCE; force++) {
            for (int way = 0; way < WAYS; way++) {
                places |= 1L << placeBy(s, way, force);
            }
        }
        return Long.bitCount(places);
    }

    /** Where a SAYING of the trial coast comes to, said by a WAY with a FORCE. */
    private int placeBy(int s, int way, int force) {
        trial.told[s][WAY] = way;
        trial.told[s][FORCE] = force;
        day.pass(trial);
        return day.place[s];
    }

    public int screen(int cell) {
        if (!Rules.isCell(cell)) {
            return BAD;
        }
        if (Long.bitCount(now.walls) >= MOST_WALLS) {
            return FULL;
        }
        int place = Rules.placeOf(cell);
        day.pass(now);
        if (day.landedIn(place) == 0) {
            return NONE;
        }
        trial.copyFrom(now);
        for (int more = 0; more < CELLS; more++) {
            if (!Rules.has(now.walls, more)) {
                trial.walls = now.walls | 1L << more;
                day.pass(trial);
                if (day.landedIn(place) == 0) {
                    return Rules.cellOf(more);
                }
            }
        }
        return NONE;
    }

    public int walk(int from, int to) {
        if (!Rules.isCell(from) || !Rules.isCell(to)) {
            return BAD;
        }
        day.pass(now);
        int goal = Rules.placeOf(to);
        long ones = beginWalks(from);
        for (int hour = 0; hour < HOURS; hour++) {
            if (hour > 0) {
                ones = goOn(ones, hour);
            }
            if (Rules.has(ones, goal)) {
                return hour;
            }
        }
        return NONE;
    }

    public int walks(int from) {
        if (!Rules.isCell(from)) {
            return BAD;
        }
        day.pass(now);
        long ones = beginWalks(from);
        for (int hour = 1; hour < HOURS; hour++) {
            ones = goOn(ones, hour);
        }
        return Long.bitCount(ones);
    }

    /** The place in which WALKS begin, as a bit; none if one can't be there in HOUR 0. */
    private long beginWalks(int from) {
        return 1L << Rules.placeOf(from) & ~closedIn(0);
    }

    private long goOn(long places, int hour) {
        return Rules.spread(places) & ~closedIn(hour);
    }

    private long closedIn(int hour) {
        return now.walls | day.landingsOf(hour);
    }

    public int when(int s, int what) {
        if (!now.isSaying(s) || what < 0 || what > 1) {
            return BAD;
        }
        int best = 0;
        int hearers = -1;
        trial.copyFrom(now);
        for (int hour = 0; hour < HOURS; hour++) {
            trial.told[s][HOUR] = hour;
            day.pass(trial);
            int many = trial.hearersIn(day.place[s]);
            if (many > hearers) {
                best = hour;
                hearers = many;
            }
        }
        return what == 0 ? best : hearers;
    }

    // ---- winds by odds

    public long luck(int v, int s, int cell, int what) {
        if (!Rules.isOutOfTen(v) || !now.isSaying(s) || !Rules.isCell(cell) || what < 0 || what > 1) {
            return BAD;
        }
        int place = Rules.placeOf(cell);
        long sum = 0;
        for (int still = 0; still < 1 << now.sayings; still++) {
            long weight = day.passByOdds(now, v, still);
            if (day.place[s] == place) {
                sum += weight;
            }
        }
        return Rules.lowest(sum, Day.ALL_ODDS, what);
    }

    public long mean(int v, int what) {
        if (!Rules.isOutOfTen(v) || what < 0 || what > 1) {
            return BAD;
        }
        long sum = 0;
        for (int still = 0; still < 1 << now.sayings; still++) {
            long weight = day.passByOdds(now, v, still);
            sum += weight * day.heard(now);
        }
        return Rules.lowest(sum, Day.ALL_ODDS, what);
    }

    // ---- who said it

    public int see(int s, int cell) {
        if (!now.isSaying(s) || !Rules.isCell(cell)) {
            return BAD;
        }
        if (now.seen >= MOST_SEEN) {
            return FULL;
        }
        now.seenSaying[now.seen] = s;
        now.seenPlace[now.seen] = Rules.placeOf(cell);
        now.seen++;
        return now.seen;
    }

    public int forget(int n) {
        if (n < 0 || n > now.seen) {
            return BAD;
        }
        int were = now.seen;
        now.seen = n;
        return were;
    }

    public int kinds(int s) {
        return now.isSaying(s) ? asSeenBy(s, KIND, PLAIN, PROPOSAL) : BAD;
    }

    public int forces(int s) {
        return now.isSaying(s) ? asSeenBy(s, FORCE, LEAST_FORCE, MOST_FORCE) : BAD;
    }

    /** Bits of the numbers from first to last which, told of a SAYING, make all be as SEEN. */
    private int asSeenBy(int s, int part, int first, int last) {
        int bits = 0;
        trial.copyFrom(now);
        for (int v = first; v <= last; v++) {
            trial.told[s][part] = v;
            day.pass(trial);
            if (day.isAsSeen(trial)) {
                bits |= 1 << v;
            }
        }
        return bits;
    }

    public int froms(int s, int what) {
        if (!now.isSaying(s) || what < 0 || what > 1) {
            return BAD;
        }
        int many = 0;
        int first = NONE;
        trial.copyFrom(now);
        for (int place = 0; place < CELLS; place++) {
            trial.told[s][FROM] = Rules.cellOf(place);
            day.pass(trial);
            if (day.isAsSeen(trial)) {
                if (many == 0) {
                    first = Rules.cellOf(place);
                }
                many++;
            }
        }
        return what == 0 ? many : first;
    }

    public int look(int s, int what) {
        if (!now.isSaying(s) || what < 0 || what > 1) {
            return BAD;
        }
        int forces = asSeenBy(s, FORCE, LEAST_FORCE, MOST_FORCE);
        int best = NONE;
        int fewest = Integer.bitCount(forces);
        for (int other = 0; other < now.sayings; other++) {
            int left = mostLeft(s, forces, other);
            if (left < fewest) {
                best = other;
                fewest = left;
            }
        }
        return what == 0 || best == NONE ? best : fewest;
    }

    /** How many of the FORCES of a SAYING are left at the worst when it is known where another one LANDS. */
    private int mostLeft(int s, int forces, int other) {
        int worst = 0;
        for (int place = 0; place < CELLS; place++) {
            tally[place] = 0;
        }
        trial.copyFrom(now);
        for (int force = LEAST_FORCE; force <= MOST_FORCE; force++) {
            if ((forces >> force & 1) != 0) {
                trial.told[s][FORCE] = force;
                day.pass(trial);
                int place = day.place[other];
                tally[place]++;
                worst = Math.max(worst, tally[place]);
            }
        }
        return worst;
    }

    // ---- by a seed

    public int drift(int seed, int n, int what) {
        if (n < 1 || n > 60 || what < 0 || what > 1) {
            return BAD;
        }
        int sayings = now.sayings;
        if (sayings <= 0) {
            return STATE;
        }
        int heard = 0;
        int next = seed;
        trial.copyFrom(now);
        for (int i = 0; i < n; i++) {
            next = next * 1103515245 + 12345;
            int got = next >>> 16 & 0x7fff;
            int s = got % sayings;
            trial.told[s][WAY] = got / 8 % WAYS;
            trial.told[s][FORCE] = 1 + got / 32 % MOST_FORCE;
            day.pass(trial);
            heard += day.heard(trial);
        }
        return what == 0 ? heard : Rules.cellOf(day.place[0]);
    }

    // ---- images, sheets

    public int keep(int k) {
        if (k < 0 || k >= IMAGES) {
            return BAD;
        }
        int was = kept[k] ? 1 : 0;
        images[k].copyFrom(now);
        kept[k] = true;
        return was;
    }

    public int back(int k) {
        if (k < 0 || k >= IMAGES) {
            return BAD;
        }
        if (!kept[k]) {
            return STATE;
        }
        now.copyFrom(images[k]);
        return now.sayings;
    }

    public int sheet(int k, int lane, int n) {
        if (k < 0 || k >= SHEETS || lane < 0 || lane >= LANES || n > SHEET_CELLS) {
            return BAD;
        }
        if (n < 0) {
            return -10 - SIZE_FAULT;
        }
        sheets[k].renew(lane, n);
        return 1;
    }

    public int lay(int k, int i, int v) {
        if (k < 0 || k >= SHEETS) {
            return BAD;
        }
        int flaw = sheets[k].flawAt(sheets[k].lane, i);
        if (flaw != 0) {
            return -10 - flaw;
        }
        sheets[k].put(i, v);
        return 1;
    }

    public int read(int k, int lane, int f, int n) {
        if (k < 0 || k >= SHEETS || lane < 0 || lane >= LANES || n < 0 || n > MOST_READ) {
            return BAD;
        }
        Sheet sheet = sheets[k];
        int came = 0;
        int flaw = 0;
        trial.copyFrom(now);
        for (int i = 0; i < n && flaw == 0; i++) {
            int first = f + 3 * i;
            flaw = sheet.flawOfThree(lane, first);
            if (flaw == 0) {
                if (trial.addPlain(sheet.cellAt(first), sheet.cellAt(first + 1), sheet.cellAt(first + 2)) < 0) {
                    return -20 - i;
                }
                came++;
            }
        }
        now.copyFrom(trial);
        lastTorn = flaw;
        return came;
    }

    public int torn() {
        return lastTorn;
    }

    public int count(int what) {
        switch (what) {
            case 0:
                return now.seen;
            case 1:
                return imagesKept();
            case 2:
                return reader.size;
            case 3:
                return sheets[0].isThere ? sheets[0].size : NONE;
            case 4:
                return now.allForces();
            default:
                return BAD;
        }
    }

    private int imagesKept() {
        int many = 0;
        for (int k = 0; k < IMAGES; k++) {
            if (kept[k]) {
                many++;
            }
        }
        return many;
    }

    /**
     * The bounds of what is told, and the geometry of the coast. A CELL is named 10 times x and y; inside it is
     * a place of 0 to 63 (8 times x and y, the same order), so that a set of CELLS is the bits of one long.
     */
    private static final class Rules {
        /** The places whose y is 7, and those whose y is 0: from there no WAY leads north, or south. */
        static final long NORTH_EDGE = 0x8080808080808080L, SOUTH_EDGE = 0x0101010101010101L;

        static boolean isCell(int cell) {
            return cell >= 0 && cell <= 77 && cell % 10 <= 7;
        }

        static int placeOf(int cell) {
            return cell / 10 * 8 + cell % 10;
        }

        static int cellOf(int place) {
            return place / 8 * 10 + place % 8;
        }

        static boolean has(long places, int place) {
            return (places >>> place & 1L) != 0;
        }

        static boolean fits(int part, int v) {
            switch (part) {
                case KIND:
                    return v >= PLAIN && v <= PROPOSAL;
                case FROM:
                    return isCell(v);
                case WAY:
                    return v >= 0 && v < WAYS;
                case FORCE:
                    return v >= LEAST_FORCE && v <= MOST_FORCE;
                case HOUR:
                    return v >= 0 && v < HOURS;
                case WIND:
                    return v >= 0 && v <= STILL;
                default:
                    return false;
            }
        }

        static boolean isOutOfTen(int v) {
            return v >= 0 && v <= 10;
        }

        static int reachBy(int kind, int force) {
            int small = (force + 1) / 2;
            switch (kind) {
                case SMALL:
                    return small;
                case SERMON:
                    return force - 1;
                case PROPOSAL:
                    return 2 * small;
                default:
                    return force;
            }
        }

        /** The place one on by a WAY; -1 where there is none, as by a WIND that is still. */
        static int onFrom(int place, int way) {
            int x = place / 8;
            int y = place % 8;
            switch (way) {
                case 0:
                    return y < 7 ? place + 1 : -1;
                case 1:
                    return x < 7 ? place + 8 : -1;
                case 2:
                    return y > 0 ? place - 1 : -1;
                case 3:
                    return x > 0 ? place - 8 : -1;
                default:
                    return -1;
            }
        }

        /** The places themselves and all that are one on from them. */
        static long spread(long places) {
            return places | (places & ~NORTH_EDGE) << 1 | (places & ~SOUTH_EDGE) >>> 1 | places << 8 | places >>> 8;
        }

        /** One part of a fraction in lowest terms: 0 the numerator, else the denominator. */
        static long lowest(long numerator, long denominator, int what) {
            long a = denominator;
            long b = numerator;
            for (int i = 0; i < 100 && b != 0; i++) {
                long rest = a % b;
                a = b;
                b = rest;
            }
            long part = what == 0 ? numerator : denominator;
            return a == 0 ? part : part / a;
        }
    }

    /** All that an IMAGE holds: WALLS, WINDS, SAYINGS, HEARERS, what was SEEN. */
    private static final class Coast {
        long walls;
        final int[] winds = new int[HOURS];
        final int[][] told = new int[MOST_SAYINGS][PARTS];
        int sayings;
        final int[] at = new int[MOST_HEARERS];
        int hearers;
        final int[] seenSaying = new int[MOST_SEEN];
        final int[] seenPlace = new int[MOST_SEEN];
        int seen;

        Coast() {
            clear();
        }

        void clear() {
            walls = 0;
            sayings = 0;
            hearers = 0;
            seen = 0;
            for (int hour = 0; hour < HOURS; hour++) {
                winds[hour] = STILL;
            }
        }

        void copyFrom(Coast other) {
            walls = other.walls;
            sayings = other.sayings;
            hearers = other.hearers;
            seen = other.seen;
            System.arraycopy(other.winds, 0, winds, 0, HOURS);
            for (int s = 0; s < MOST_SAYINGS; s++) {
                System.arraycopy(other.told[s], 0, told[s], 0, PARTS);
            }
            System.arraycopy(other.at, 0, at, 0, MOST_HEARERS);
            System.arraycopy(other.seenSaying, 0, seenSaying, 0, MOST_SEEN);
            System.arraycopy(other.seenPlace, 0, seenPlace, 0, MOST_SEEN);
        }

        boolean isSaying(int s) {
            return s >= 0 && s < sayings;
        }

        boolean isHearer(int h) {
            return h >= 0 && h < hearers;
        }

        int addPlain(int from, int way, int force) {
            if (!Rules.fits(FROM, from) || !Rules.fits(WAY, way) || !Rules.fits(FORCE, force)) {
                return BAD;
            }
            if (sayings >= MOST_SAYINGS) {
                return FULL;
            }
            int[] row = told[sayings];
            row[KIND] = PLAIN;
            row[FROM] = from;
            row[WAY] = way;
            row[FORCE] = force;
            row[HOUR] = 0;
            sayings++;
            return sayings - 1;
        }

        int windyHours() {
            int bits = 0;
            for (int hour = 0; hour < HOURS; hour++) {
                if (winds[hour] != STILL) {
                    bits |= 1 << hour;
                }
            }
            return bits;
        }

        int hearersIn(int place) {
            int many = 0;
            for (int h = 0; h < hearers; h++) {
                if (Rules.placeOf(at[h]) == place) {
                    many++;
                }
            }
            return many;
        }

        int allForces() {
            int sum = 0;
            for (int s = 0; s < sayings; s++) {
                sum += told[s][FORCE];
            }
            return sum;
        }
    }

    /** THE DAY of a coast: where and when each SAYING LANDS, and the WALLS that are then. */
    private static final class Day {
        /** Every SAYING settles one WIND at most, each by tenths: all odds have this denominator. */
        static final long ALL_ODDS = 100000L;

        final int[] place = new int[MOST_SAYINGS];
        final int[] hour = new int[MOST_SAYINGS];
        final int[] steps = new int[MOST_SAYINGS];
        long walls;
        private final int[] winds = new int[HOURS];
        private final int[] order = new int[MOST_SAYINGS];
        private int sayings;

        void pass(Coast coast) {
            begin(coast);
            for (int i = 0; i < sayings; i++) {
                comeDown(coast, order[i]);
                land(coast, order[i]);
            }
        }

        /**
         * THE DAY with WINDS by odds. The bit of a SAYING in still says that the WIND in which it LANDS, met by it
         * first, has failed. Answers the odds of that; 0 for bits that say nothing, since no WIND is settled there
         * (it is still as told, or one ahead has met it): so each course of THE DAY is counted once.
         */
        long passByOdds(Coast coast, int outOfTen, int still) {
            long odds = ALL_ODDS;
            int settled = 0;
            begin(coast);
            for (int i = 0; i < sayings; i++) {
                int s = order[i];
                boolean fails = (still >> s & 1) != 0;
                comeDown(coast, s);
                int then = hour[s];
                if (coast.winds[then] == STILL || (settled >> then & 1) != 0) {
                    odds = fails ? 0 : odds;
                } else {
                    settled |= 1 << then;
                    winds[then] = fails ? STILL : coast.winds[then];
                    odds = odds / 10 * (fails ? outOfTen : 10 - outOfTen);
                }
                land(coast, s);
            }
            return odds;
        }

        private void begin(Coast coast) {
            walls = coast.walls;
            sayings = coast.sayings;
            System.arraycopy(coast.winds, 0, winds, 0, HOURS);
            int many = 0;
            for (int h = 0; h < HOURS; h++) {
                for (int s = 0; s < sayings; s++) {
                    if (coast.told[s][HOUR] == h && many < MOST_SAYINGS) {
                        order[many] = s;
                        many++;
                    }
                }
            }
        }

        private void comeDown(Coast coast, int s) {
            int[] row = coast.told[s];
            int far = Rules.reachBy(row[KIND], row[FORCE]);
            int here = Rules.placeOf(row[FROM]);
            int gone = 0;
            while (gone < far) {
                int on = Rules.onFrom(here, row[WAY]);
                if (!isOpen(on, row[KIND])) {
                    break;
                }
                here = on;
                gone++;
            }
            place[s] = here;
            steps[s] = gone;
            hour[s] = Math.min(HOURS - 1, row[HOUR] + gone / 2);
        }

        private void land(Coast coast, int s) {
            int kind = coast.told[s][KIND];
            int on = Rules.onFrom(place[s], winds[hour[s]]);
            if (isOpen(on, kind)) {
                place[s] = on;
            }
            if (kind == SERMON && Long.bitCount(walls) < MOST_WALLS) {
                walls |= 1L << place[s];
            }
        }

        private boolean isOpen(int on, int kind) {
            return on >= 0 && (kind == PROPOSAL || !Rules.has(walls, on));
        }

        /** SAYINGS that came to a place, as bits. */
        int landedIn(int asked) {
            int bits = 0;
            for (int s = 0; s < sayings; s++) {
                if (place[s] == asked) {
                    bits |= 1 << s;
                }
            }
            return bits;
        }

        /** Places in which something LANDS in an HOUR, as bits. */
        long landingsOf(int asked) {
            long bits = 0;
            for (int s = 0; s < sayings; s++) {
                if (hour[s] == asked) {
                    bits |= 1L << place[s];
                }
            }
            return bits;
        }

        int hoursOfLanding() {
            int bits = 0;
            for (int s = 0; s < sayings; s++) {
                bits |= 1 << hour[s];
            }
            return bits;
        }

        int allSteps() {
            int sum = 0;
            for (int s = 0; s < sayings; s++) {
                sum += steps[s];
            }
            return sum;
        }

        /** How many SAYINGS are heard; one that several hear counts once. */
        int heard(Coast coast) {
            int many = 0;
            for (int s = 0; s < sayings; s++) {
                if (coast.hearersIn(place[s]) > 0) {
                    many++;
                }
            }
            return many;
        }

        boolean isAsSeen(Coast coast) {
            for (int i = 0; i < coast.seen; i++) {
                if (place[coast.seenSaying[i]] != coast.seenPlace[i]) {
                    return false;
                }
            }
            return true;
        }
    }

    /** THE TAPE and its reading, TOKEN by TOKEN, into a draft that is taken only when all of it is sound. */
    private static final class Reader {
        private static final int END = 0, NAME = 1, NUMBER = 2, STOP = 3;
        /** Lines by their NAMES; the first four are the KINDS of SAYINGS. */
        private static final int WALL_LINE = 4, WIND_LINE = 5, HEARER_LINE = 6, LINES = 7;
        private static final int NO_TOKEN = 1, MISPLACED = 2, OUT_OF_BOUNDS = 3, TOLD_ALREADY = 4, TOO_MANY = 5;

        final byte[] tape = new byte[TAPE];
        int size;
        final Coast draft = new Coast();
        int flaw;
        int place;
        private int at;
        private int token;
        private int start;
        private int value;
        private int toldHours;

        /** How many lines there are; if one is not sound, flaw and place say why and where. */
        int readLines() {
            at = 0;
            flaw = 0;
            place = 0;
            toldHours = 0;
            draft.clear();
            int lines = 0;
            while (lines <= TAPE && next() && token != END && readLine()) {
                lines++;
            }
            return lines;
        }

        private boolean readLine() {
            int line = token == NAME ? lineNamed() : LINES;
            switch (line) {
                case PLAIN:
                case SMALL:
                case SERMON:
                case PROPOSAL:
                    return readSaying(line) && readStop();
                case WALL_LINE:
                    return readWall() && readStop();
                case WIND_LINE:
                    return readWind() && readStop();
                case HEARER_LINE:
                    return readHearer() && readStop();
                default:
                    return flawed(MISPLACED);
            }
        }

        private boolean readSaying(int kind) {
            int s = draft.sayings;
            if (s >= MOST_SAYINGS) {
                return flawed(TOO_MANY);
            }
            draft.told[s][KIND] = kind;
            for (int part = FROM; part <= HOUR; part++) {
                if (!readNumber(part)) {
                    return false;
                }
                draft.told[s][part] = value;
            }
            draft.sayings++;
            return true;
        }

        private boolean readWall() {
            if (Long.bitCount(draft.walls) >= MOST_WALLS) {
                return flawed(TOO_MANY);
            }
            if (!readNumber(FROM)) {
                return false;
            }
            int cell = Rules.placeOf(value);
            if (Rules.has(draft.walls, cell)) {
                return flawed(TOLD_ALREADY);
            }
            draft.walls |= 1L << cell;
            return true;
        }

        private boolean readWind() {
            if (!readNumber(HOUR)) {
                return false;
            }
            int hour = value;
            if ((toldHours >> hour & 1) != 0) {
                return flawed(TOLD_ALREADY);
            }
            toldHours |= 1 << hour;
            if (!readNumber(WIND)) {
                return false;
            }
            draft.winds[hour] = value;
            return true;
        }

        private boolean readHearer() {
            if (draft.hearers >= MOST_HEARERS) {
                return flawed(TOO_MANY);
            }
            if (!readNumber(FROM)) {
                return false;
            }
            draft.at[draft.hearers] = value;
            draft.hearers++;
            return true;
        }

        private boolean readNumber(int part) {
            if (!next()) {
                return false;
            }
            if (token != NUMBER) {
                return flawed(MISPLACED);
            }
            return Rules.fits(part, value) || flawed(OUT_OF_BOUNDS);
        }

        private boolean readStop() {
            return next() && (token == STOP || flawed(MISPLACED));
        }

        /** Reads a TOKEN, as long as may be; the end is one too, at the length of THE TAPE. */
        private boolean next() {
            while (at < size && tape[at] == ' ') {
                at++;
            }
            start = at;
            if (at >= size) {
                token = END;
                return true;
            }
            int c = tape[at];
            at++;
            if (c == ';') {
                token = STOP;
                return true;
            }
            if (c >= 'a' && c <= 'z') {
                token = NAME;
                while (at < size && tape[at] >= 'a' && tape[at] <= 'z') {
                    at++;
                }
                return true;
            }
            if (c >= '0' && c <= '9') {
                token = NUMBER;
                value = c - '0';
                while (at < size && tape[at] >= '0' && tape[at] <= '9') {
                    value = value * 10 + tape[at] - '0';
                    at++;
                }
                return at - start <= 2 || flawed(NO_TOKEN);
            }
            return flawed(NO_TOKEN);
        }

        private boolean flawed(int why) {
            flaw = why;
            place = start;
            return false;
        }

        private int lineNamed() {
            for (int line = 0; line < LINES; line++) {
                if (isName(nameOf(line))) {
                    return line;
                }
            }
            return LINES;
        }

        private boolean isName(String name) {
            if (name.length() != at - start) {
                return false;
            }
            for (int i = 0; i < name.length(); i++) {
                if (tape[start + i] != name.charAt(i)) {
                    return false;
                }
            }
            return true;
        }

        private static String nameOf(int line) {
            switch (line) {
                case PLAIN:
                    return "plain";
                case SMALL:
                    return "small";
                case SERMON:
                    return "sermon";
                case PROPOSAL:
                    return "proposal";
                case WALL_LINE:
                    return "wall";
                case WIND_LINE:
                    return "wind";
                default:
                    return "hearer";
            }
        }
    }

    /** A row of BYTES, SHORTS or INTS, or nothing; each CELL holds what its lane leaves of a number. */
    private static final class Sheet {
        boolean isThere;
        int lane;
        int size;
        private final int[] cells = new int[SHEET_CELLS];

        void renew(int newLane, int newSize) {
            isThere = true;
            lane = newLane;
            size = newSize;
            for (int i = 0; i < SHEET_CELLS; i++) {
                cells[i] = 0;
            }
        }

        /** What the machine finds when the SHEET is taken as of a lane and CELL i is used; 0: nothing. */
        int flawAt(int asked, int i) {
            if (!isThere) {
                return NULL_FAULT;
            }
            if (lane != asked) {
                return CAST_FAULT;
            }
            return i < 0 || i >= size ? INDEX_FAULT : 0;
        }

        int flawOfThree(int asked, int first) {
            int flaw = 0;
            for (int i = 0; i < 3 && flaw == 0; i++) {
                flaw = flawAt(asked, first + i);
            }
            return flaw;
        }

        void put(int i, int v) {
            if (i < 0 || i >= SHEET_CELLS) {
                return;
            }
            switch (lane) {
                case 0:
                    cells[i] = (byte) v;
                    break;
                case 1:
                    cells[i] = (short) v;
                    break;
                default:
                    cells[i] = v;
                    break;
            }
        }

        int cellAt(int i) {
            return i < 0 || i >= SHEET_CELLS ? 0 : cells[i];
        }
    }
}
