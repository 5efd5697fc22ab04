import java.math.BigInteger;
import java.util.ArrayList;
import java.util.Collections;
import java.util.Comparator;
import java.util.HashMap;
import java.util.HashSet;
import java.util.List;
import java.util.Map;
import java.util.Set;
import java.util.TreeMap;
import java.util.TreeSet;
import java.util.regex.Matcher;
import java.util.regex.Pattern;

/**
 * The document written a second time, from its words, with the Java library and with no care for speed: winds by odds
 * are all 1024 courses, sheets are rows whose faults the machine itself finds.
 */
final class Model {
    static final int BAD = -1, STATE = -2, FULL = -3, NONE = -4;
    private static final int[] DX = {0, 1, 0, -1, 0};
    private static final int[] DY = {1, 0, -1, 0, 0};

    /** What an image holds. */
    private static final class World {
        final TreeSet<Integer> walls = new TreeSet<>();
        final int[] winds = {4, 4, 4, 4, 4, 4, 4, 4, 4, 4};
        final List<int[]> sayings = new ArrayList<>();
        final List<Integer> hearers = new ArrayList<>();
        final List<int[]> seen = new ArrayList<>();

        World copy() {
            World w = new World();
            w.walls.addAll(walls);
            System.arraycopy(winds, 0, w.winds, 0, 10);
            for (int[] s : sayings) {
                w.sayings.add(s.clone());
            }
            w.hearers.addAll(hearers);
            w.seen.addAll(seen);
            return w;
        }
    }

    /** Where each saying lands, in which hour, by how many steps; the walls then. */
    private record Outcome(int[] cell, int[] hour, int[] steps, Set<Integer> walls) {
    }

    private World world = new World();
    private final World[] images = new World[2];
    private String tape = "";
    private int fault;
    private final Object[] sheets = new Object[4];
    private int torn;

    private static int on(int cell, int way) {
        int x = cell / 10 + DX[way];
        int y = cell % 10 + DY[way];
        return x < 0 || x > 7 || y < 0 || y > 7 ? -1 : 10 * x + y;
    }

    private static boolean cell(int c) {
        return c >= 0 && c / 10 <= 7 && c % 10 <= 7;
    }

    private static List<Integer> cells() {
        List<Integer> all = new ArrayList<>();
        for (int c = 0; c < 100; c++) {
            if (cell(c)) {
                all.add(c);
            }
        }
        return all;
    }

    private static int reachOf(int[] s) {
        double half = s[3] / 2.0;
        return switch (s[0]) {
            case 0 -> s[3];
            case 1 -> (int) Math.ceil(half);
            case 2 -> s[3] - 1;
            default -> 2 * (int) Math.ceil(half);
        };
    }

    private static Outcome day(World w, int[] winds) {
        int n = w.sayings.size();
        Outcome o = new Outcome(new int[n], new int[n], new int[n], new HashSet<>(w.walls));
        List<Integer> order = new ArrayList<>();
        for (int s = 0; s < n; s++) {
            order.add(s);
        }
        order.sort(Comparator.comparing(s -> w.sayings.get(s)[4]));
        for (int i : order) {
            int[] s = w.sayings.get(i);
            int at = s[1];
            int gone = 0;
            for (int r = reachOf(s); r > 0; r--) {
                int next = on(at, s[2]);
                if (next < 0 || s[0] != 3 && o.walls.contains(next)) {
                    break;
                }
                at = next;
                gone++;
            }
            int hour = Math.min(9, s[4] + gone / 2);
            if (winds[hour] != 4) {
                int next = on(at, winds[hour]);
                if (next >= 0 && (s[0] == 3 || !o.walls.contains(next))) {
                    at = next;
                }
            }
            o.cell[i] = at;
            o.hour[i] = hour;
            o.steps[i] = gone;
            if (s[0] == 2 && o.walls.size() < 12) {
                o.walls.add(at);
            }
        }
        return o;
    }

    private static Outcome day(World w) {
        return day(w, w.winds);
    }

    private static int heard(World w, Outcome o) {
        int many = 0;
        for (int c : o.cell) {
            many += w.hearers.contains(c) ? 1 : 0;
        }
        return many;
    }

    private static boolean asSeen(World w) {
        Outcome o = day(w);
        for (int[] seen : w.seen) {
            if (o.cell[seen[0]] != seen[1]) {
                return false;
            }
        }
        return true;
    }

    private World with(int s, int what, int v) {
        World w = world.copy();
        w.sayings.get(s)[what] = v;
        return w;
    }

    private boolean noSaying(int s) {
        return s < 0 || s >= world.sayings.size();
    }

    private static boolean out(int v, int least, int most) {
        return v < least || v > most;
    }

    // ---- the text

    int feed(int c) {
        if (out(c, 0, 127)) {
            return BAD;
        }
        if (tape.length() == 160) {
            return FULL;
        }
        tape += (char) c;
        return tape.length();
    }

    int end(int n) {
        if (out(n, 0, tape.length())) {
            return BAD;
        }
        int had = tape.length();
        tape = tape.substring(0, n);
        return had;
    }

    private static final class Faulty extends Exception {
        private static final long serialVersionUID = 1;
        final int fault;
        final int place;

        Faulty(int fault, int place) {
            this.fault = fault;
            this.place = place;
        }
    }

    private static final class Tokens {
        private static final Pattern TOKEN = Pattern.compile("[a-z]+|[0-9]+|;");
        private final String tape;
        private int next;
        int start;
        String token;

        Tokens(String tape) {
            this.tape = tape;
        }

        void read() throws Faulty {
            while (next < tape.length() && tape.charAt(next) == ' ') {
                next++;
            }
            start = next;
            token = "";
            if (next == tape.length()) {
                return;
            }
            Matcher m = TOKEN.matcher(tape).region(next, tape.length());
            if (!m.lookingAt() || m.group().length() > 2 && Character.isDigit(m.group().charAt(0))) {
                throw new Faulty(1, start);
            }
            token = m.group();
            next = m.end();
        }

        int number(List<Integer> bounds) throws Faulty {
            read();
            if (token.isEmpty() || !Character.isDigit(token.charAt(0))) {
                throw new Faulty(2, start);
            }
            int v = Integer.parseInt(token);
            if (!bounds.contains(v)) {
                throw new Faulty(3, start);
            }
            return v;
        }
    }

    private static List<Integer> from(int least, int most) {
        List<Integer> all = new ArrayList<>();
        for (int v = least; v <= most; v++) {
            all.add(v);
        }
        return all;
    }

    int text() {
        Tokens t = new Tokens(tape);
        tape = "";
        World w = new World();
        Set<Integer> hours = new HashSet<>();
        int lines = 0;
        try {
            for (t.read(); !t.token.isEmpty(); t.read()) {
                line(t, w, hours);
                t.read();
                if (!t.token.equals(";")) {
                    throw new Faulty(2, t.start);
                }
                lines++;
            }
        } catch (Faulty f) {
            fault = f.fault;
            return -10 - f.place;
        }
        fault = 0;
        world = w;
        images[0] = null;
        images[1] = null;
        return lines;
    }

    private static void line(Tokens t, World w, Set<Integer> hours) throws Faulty {
        int kind = List.of("plain", "small", "sermon", "proposal").indexOf(t.token);
        if (kind >= 0) {
            limit(t, w.sayings.size(), 5);
            w.sayings.add(new int[] {kind, t.number(cells()), t.number(from(0, 3)), t.number(from(1, 9)), t.number(from(0, 9))});
        } else if (t.token.equals("wall")) {
            limit(t, w.walls.size(), 12);
            if (!w.walls.add(t.number(cells()))) {
                throw new Faulty(4, t.start);
            }
        } else if (t.token.equals("wind")) {
            int hour = t.number(from(0, 9));
            if (!hours.add(hour)) {
                throw new Faulty(4, t.start);
            }
            w.winds[hour] = t.number(from(0, 4));
        } else if (t.token.equals("hearer")) {
            limit(t, w.hearers.size(), 4);
            w.hearers.add(t.number(cells()));
        } else {
            throw new Faulty(2, t.start);
        }
    }

    private static void limit(Tokens t, int has, int most) throws Faulty {
        if (has == most) {
            throw new Faulty(5, t.start);
        }
    }

    int fault() {
        return fault;
    }

    int rule(int what) {
        int bits = 0;
        for (int h = 0; h < 10; h++) {
            bits += world.winds[h] == 4 ? 0 : 1 << h;
        }
        int[] all = {world.sayings.size(), world.hearers.size(), world.walls.size(), bits};
        return out(what, 0, 3) ? BAD : all[what];
    }

    int saying(int s, int what) {
        if (noSaying(s) || out(what, 0, 5)) {
            return BAD;
        }
        return what == 5 ? reachOf(world.sayings.get(s)) : world.sayings.get(s)[what];
    }

    int hearer(int h) {
        return out(h, 0, world.hearers.size() - 1) ? BAD : world.hearers.get(h);
    }

    int wall(int c) {
        return !cell(c) ? BAD : world.walls.contains(c) ? 1 : 0;
    }

    int wind(int hour) {
        return out(hour, 0, 9) ? BAD : world.winds[hour];
    }

    // ---- what is changed

    int alter(int s, int what, int v) {
        int[] least = {0, 0, 0, 1, 0};
        int[] most = {3, 77, 3, 9, 9};
        if (noSaying(s) || out(what, 0, 4) || out(v, least[what], most[what]) || what == 1 && !cell(v)) {
            return BAD;
        }
        int was = world.sayings.get(s)[what];
        world.sayings.get(s)[what] = v;
        return was;
    }

    int stand(int h, int c) {
        return out(h, 0, world.hearers.size() - 1) || !cell(c) ? BAD : world.hearers.set(h, c);
    }

    int build(int c, boolean is) {
        if (!cell(c)) {
            return BAD;
        }
        boolean had = world.walls.contains(c);
        if (is && !had && world.walls.size() == 12) {
            return FULL;
        }
        if (is) {
            world.walls.add(c);
        } else {
            world.walls.remove(c);
        }
        return had ? 1 : 0;
    }

    int blow(int hour, int v) {
        if (out(hour, 0, 9) || out(v, 0, 4)) {
            return BAD;
        }
        int was = world.winds[hour];
        world.winds[hour] = v;
        return was;
    }

    int say(int from, int way, int force) {
        if (!cell(from) || out(way, 0, 3) || out(force, 1, 9)) {
            return BAD;
        }
        if (world.sayings.size() == 5) {
            return FULL;
        }
        world.sayings.add(new int[] {0, from, way, force, 0});
        return world.sayings.size() - 1;
    }

    // ---- the day

    int lands(int s, int what) {
        if (noSaying(s) || out(what, 0, 2)) {
            return BAD;
        }
        Outcome o = day(world);
        return new int[] {o.cell[s], o.hour[s], o.steps[s]}[what];
    }

    private static int bitsIn(Outcome o, int c) {
        int bits = 0;
        for (int s = 0; s < o.cell.length; s++) {
            bits += o.cell[s] == c ? 1 << s : 0;
        }
        return bits;
    }

    int hears(int h) {
        return out(h, 0, world.hearers.size() - 1) ? BAD : bitsIn(day(world), world.hearers.get(h));
    }

    int field(int c, int what) {
        if (!cell(c) || out(what, 0, 1)) {
            return BAD;
        }
        Outcome o = day(world);
        return what == 0 ? bitsIn(o, c) : o.walls.contains(c) ? 1 : 0;
    }

    int sum(int what) {
        if (out(what, 0, 3)) {
            return BAD;
        }
        Outcome o = day(world);
        int steps = 0;
        int hours = 0;
        for (int s = 0; s < o.cell.length; s++) {
            steps += o.steps[s];
            hours |= 1 << o.hour[s];
        }
        return new int[] {heard(world, o), o.walls.size(), steps, hours}[what];
    }

    // ---- what is best

    int most(int what) {
        if (out(what, 0, 1)) {
            return BAD;
        }
        Outcome o = day(world);
        List<Integer> open = cells();
        open.removeAll(world.walls);
        int best = Collections.max(open, Comparator.<Integer>comparingInt(c -> Integer.bitCount(bitsIn(o, c))).thenComparing(c -> -c));
        return what == 0 ? best : Integer.bitCount(bitsIn(o, best));
    }

    int aim(int s, int c) {
        if (noSaying(s) || !cell(c)) {
            return BAD;
        }
        TreeSet<Integer> all = new TreeSet<>();
        for (int way = 0; way < 4; way++) {
            for (int force = 1; force < 10; force++) {
                World w = with(s, 2, way);
                w.sayings.get(s)[3] = force;
                if (day(w).cell[s] == c) {
                    all.add(10 * force + way);
                }
            }
        }
        return all.isEmpty() ? NONE : all.first();
    }

    int reach(int s) {
        if (noSaying(s)) {
            return BAD;
        }
        int many = 0;
        for (int c : cells()) {
            many += aim(s, c) == NONE ? 0 : 1;
        }
        return many;
    }

    int screen(int c) {
        if (!cell(c)) {
            return BAD;
        }
        if (world.walls.size() == 12) {
            return FULL;
        }
        if (bitsIn(day(world), c) == 0) {
            return NONE;
        }
        for (int more : cells()) {
            World w = world.copy();
            if (w.walls.add(more) && bitsIn(day(w), c) == 0) {
                return more;
            }
        }
        return NONE;
    }

    /** By HOUR, the CELLS in which a WALK may be. */
    private List<Set<Integer>> ways(int from) {
        Outcome o = day(world);
        List<Set<Integer>> all = new ArrayList<>();
        for (int hour = 0; hour < 10; hour++) {
            Set<Integer> may = new TreeSet<>();
            for (int c : cells()) {
                boolean comes = hour == 0 ? c == from : false;
                for (int way = 0; hour > 0 && way < 5; way++) {
                    comes |= all.get(hour - 1).contains(on(c, way));
                }
                boolean hit = false;
                for (int s = 0; s < o.cell.length; s++) {
                    hit |= o.cell[s] == c && o.hour[s] == hour;
                }
                if (comes && !hit && !world.walls.contains(c)) {
                    may.add(c);
                }
            }
            all.add(may);
        }
        return all;
    }

    int walk(int from, int to) {
        if (!cell(from) || !cell(to)) {
            return BAD;
        }
        List<Set<Integer>> all = ways(from);
        for (int hour = 0; hour < 10; hour++) {
            if (all.get(hour).contains(to)) {
                return hour;
            }
        }
        return NONE;
    }

    int walks(int from) {
        return cell(from) ? ways(from).get(9).size() : BAD;
    }

    int when(int s, int what) {
        if (noSaying(s) || out(what, 0, 1)) {
            return BAD;
        }
        TreeMap<Integer, Integer> firstBy = new TreeMap<>();
        for (int hour = 0; hour < 10; hour++) {
            int c = day(with(s, 4, hour)).cell[s];
            firstBy.putIfAbsent(Collections.frequency(world.hearers, c), hour);
        }
        return what == 0 ? firstBy.lastEntry().getValue() : firstBy.lastKey();
    }

    // ---- winds by odds

    private interface Worth {
        int of(Outcome o);
    }

    private long odds(int v, int what, Worth worth) {
        BigInteger sum = BigInteger.ZERO;
        for (int mask = 0; mask < 1024; mask++) {
            int[] winds = world.winds.clone();
            BigInteger weight = BigInteger.ONE;
            for (int hour = 0; hour < 10; hour++) {
                boolean still = (mask >> hour & 1) == 1;
                winds[hour] = still ? 4 : winds[hour];
                weight = weight.multiply(BigInteger.valueOf(still ? v : 10 - v));
            }
            if (weight.signum() != 0) {
                sum = sum.add(weight.multiply(BigInteger.valueOf(worth.of(day(world, winds)))));
            }
        }
        BigInteger all = BigInteger.TEN.pow(10);
        BigInteger common = sum.gcd(all);
        return (what == 0 ? sum : all).divide(common).longValueExact();
    }

    long luck(int v, int s, int c, int what) {
        if (out(v, 0, 10) || noSaying(s) || !cell(c) || out(what, 0, 1)) {
            return BAD;
        }
        return odds(v, what, o -> o.cell[s] == c ? 1 : 0);
    }

    long mean(int v, int what) {
        if (out(v, 0, 10) || out(what, 0, 1)) {
            return BAD;
        }
        return odds(v, what, o -> heard(world, o));
    }

    // ---- who said it

    int see(int s, int c) {
        if (noSaying(s) || !cell(c)) {
            return BAD;
        }
        if (world.seen.size() == 6) {
            return FULL;
        }
        world.seen.add(new int[] {s, c});
        return world.seen.size();
    }

    int forget(int n) {
        int were = world.seen.size();
        if (out(n, 0, were)) {
            return BAD;
        }
        world.seen.subList(n, were).clear();
        return were;
    }

    private List<Integer> fitting(int s, int what, List<Integer> all) {
        List<Integer> good = new ArrayList<>();
        for (int v : all) {
            if (asSeen(with(s, what, v))) {
                good.add(v);
            }
        }
        return good;
    }

    private static int bits(List<Integer> all) {
        int bits = 0;
        for (int v : all) {
            bits |= 1 << v;
        }
        return bits;
    }

    int kinds(int s) {
        return noSaying(s) ? BAD : bits(fitting(s, 0, from(0, 3)));
    }

    int forces(int s) {
        return noSaying(s) ? BAD : bits(fitting(s, 3, from(1, 9)));
    }

    int froms(int s, int what) {
        if (noSaying(s) || out(what, 0, 1)) {
            return BAD;
        }
        List<Integer> good = fitting(s, 1, cells());
        return what == 0 ? good.size() : good.isEmpty() ? NONE : good.get(0);
    }

    int look(int s, int what) {
        if (noSaying(s) || out(what, 0, 1)) {
            return BAD;
        }
        List<Integer> good = fitting(s, 3, from(1, 9));
        TreeMap<Integer, Integer> firstBy = new TreeMap<>();
        for (int t = 0; t < world.sayings.size(); t++) {
            Map<Integer, Integer> left = new HashMap<>();
            for (int force : good) {
                left.merge(day(with(s, 3, force)).cell[t], 1, Integer::sum);
            }
            if (!left.isEmpty() && Collections.max(left.values()) < good.size()) {
                firstBy.putIfAbsent(Collections.max(left.values()), t);
            }
        }
        if (firstBy.isEmpty()) {
            return NONE;
        }
        return what == 0 ? firstBy.firstEntry().getValue() : firstBy.firstKey();
    }

    // ---- by a seed

    int drift(int seed, int n, int what) {
        if (out(n, 1, 60) || out(what, 0, 1)) {
            return BAD;
        }
        if (world.sayings.isEmpty()) {
            return STATE;
        }
        World w = world.copy();
        int heard = 0;
        int next = seed;
        for (int i = 0; i < n; i++) {
            next = next * 1103515245 + 12345;
            int got = (next >> 16) & 32767;
            int[] s = w.sayings.get(got % w.sayings.size());
            s[2] = (got >> 3) % 4;
            s[3] = 1 + (got >> 5) % 9;
            heard += heard(w, day(w));
        }
        return what == 0 ? heard : day(w).cell[0];
    }

    // ---- images, sheets

    int keep(int k) {
        if (out(k, 0, 1)) {
            return BAD;
        }
        int was = images[k] == null ? 0 : 1;
        images[k] = world.copy();
        return was;
    }

    int back(int k) {
        if (out(k, 0, 1)) {
            return BAD;
        }
        if (images[k] == null) {
            return STATE;
        }
        world = images[k].copy();
        return world.sayings.size();
    }

    int sheet(int k, int lane, int n) {
        if (out(k, 0, 3) || out(lane, 0, 2) || n > 40) {
            return BAD;
        }
        try {
            sheets[k] = lane == 0 ? (Object) new byte[n] : lane == 1 ? (Object) new short[n] : (Object) new int[n];
            return 1;
        } catch (NegativeArraySizeException e) {
            return -14;
        }
    }

    int lay(int k, int i, int v) {
        if (out(k, 0, 3)) {
            return BAD;
        }
        try {
            if (sheets[k] instanceof byte[] b) {
                b[i] = (byte) v;
            } else if (sheets[k] instanceof short[] s) {
                s[i] = (short) v;
            } else {
                ((int[]) sheets[k])[i] = v;
            }
            return 1;
        } catch (NullPointerException e) {
            return -11;
        } catch (ArrayIndexOutOfBoundsException e) {
            return -12;
        }
    }

    private static int cellOf(Object row, int lane, int i) {
        return lane == 0 ? ((byte[]) row)[i] : lane == 1 ? ((short[]) row)[i] : ((int[]) row)[i];
    }

    int read(int k, int lane, int f, int n) {
        if (out(k, 0, 3) || out(lane, 0, 2) || out(n, 0, 13)) {
            return BAD;
        }
        World before = world.copy();
        int found = 0;
        int came = 0;
        try {
            for (int i = 0; i < n; i++) {
                int from = cellOf(sheets[k], lane, f + 3 * i);
                int way = cellOf(sheets[k], lane, f + 3 * i + 1);
                int force = cellOf(sheets[k], lane, f + 3 * i + 2);
                if (say(from, way, force) < 0) {
                    world = before;
                    return -20 - i;
                }
                came++;
            }
        } catch (NullPointerException e) {
            found = 1;
        } catch (ArrayIndexOutOfBoundsException e) {
            found = 2;
        } catch (ClassCastException e) {
            found = 3;
        }
        torn = found;
        return came;
    }

    int torn() {
        return torn;
    }

    int count(int what) {
        int forces = 0;
        for (int[] s : world.sayings) {
            forces += s[3];
        }
        int kept = (images[0] == null ? 0 : 1) + (images[1] == null ? 0 : 1);
        int cells = sheets[0] == null ? NONE : java.lang.reflect.Array.getLength(sheets[0]);
        return out(what, 0, 4) ? BAD : new int[] {world.seen.size(), kept, tape.length(), cells, forces}[what];
    }
}
