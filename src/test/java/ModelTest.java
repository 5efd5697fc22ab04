import java.util.Random;
import java.util.TreeMap;

/** Promises 2 to 42: random runs of calls on a VoiceFall and on the Model side by side; every answer must be the same. */
final class ModelTest {
    private static final Check check = Check.begin();
    private static final int RUNS = 1500;
    private static final String[] NAMES = {"plain", "small", "sermon", "proposal", "wall", "wind", "hearer"};

    private final Random random;
    private final VoiceFall x = new VoiceFall();
    private final Model model = new Model();
    private final TreeMap<String, Integer> good;

    private ModelTest(int seed, TreeMap<String, Integer> good) {
        random = new Random(seed);
        this.good = good;
    }

    public static void main(String[] args) {
        TreeMap<String, Integer> good = new TreeMap<>();
        for (int seed = 0; seed < RUNS; seed++) {
            new ModelTest(seed, good).run();
        }
        System.out.println("calls that were not refused: " + good);
        for (String call : Check.CALLS) {
            check.promiseOf(call, "as the Model answers");
            check.that(call + " was answered, not refused, in some run", good.containsKey(call));
        }
        check.finish(2, 42);
    }

    private void run() {
        tell(soundText());
        for (int i = 0; i < 120; i++) {
            int which = random.nextInt(44);
            if (which < 2) {
                tell(random.nextInt(3) == 0 ? soundText() : brokenText());
            } else if (which == 2) {
                seeWhatIs();
            } else {
                one(which % 41);
            }
        }
    }

    private void same(String call, long got, long want) {
        String name = call.substring(0, call.indexOf('('));
        check.promiseOf(name, "as the Model answers");
        check.due(call, got, want);
        if (want >= 0) {
            good.merge(name, 1, Integer::sum);
        }
    }

    private int cell() {
        return random.nextInt(20) == 0 ? random.nextInt(100) - 5 : 10 * random.nextInt(8) + random.nextInt(8);
    }

    /** Mostly 0 to most, now and then one beyond. */
    private int upTo(int most) {
        return random.nextInt(most + 3) - (random.nextInt(4) == 0 ? 1 : 0) - (random.nextInt(2));
    }

    private int s() {
        return random.nextInt(12) == 0 ? random.nextInt(8) - 1 : random.nextInt(Math.max(1, x.rule(0)));
    }

    private int what(int most) {
        return random.nextInt(12) == 0 ? random.nextInt(most + 4) - 1 : random.nextInt(most + 1);
    }

    private void tell(String tape) {
        for (int i = 0; i < tape.length(); i++) {
            same("feed(" + tape.charAt(i) + ")", x.feed(tape.charAt(i)), model.feed(tape.charAt(i)));
        }
        if (random.nextInt(10) == 0) {
            int n = upTo(tape.length());
            same("end(" + n + ")", x.end(n), model.end(n));
        }
        same("text() of " + tape, x.text(), model.text());
        same("fault() of " + tape, x.fault(), model.fault());
    }

    private String number(int most) {
        return (most < 10 && random.nextInt(12) == 0 ? "0" : "") + random.nextInt(most + 1);
    }

    private String line(int kind) {
        int c = 10 * random.nextInt(8) + random.nextInt(8);
        String gap = random.nextInt(8) == 0 ? "" : " ";
        if (kind < 4) {
            return NAMES[kind] + gap + c + " " + number(3) + " " + (1 + random.nextInt(9)) + " " + number(9) + ";" + gap;
        }
        return NAMES[kind] + gap + (kind == 5 ? number(9) + " " + number(4) : "" + c) + ";";
    }

    private String soundText() {
        StringBuilder tape = new StringBuilder();
        int favourite = random.nextInt(10);
        for (int i = random.nextInt(14); i >= 0; i--) {
            tape.append(line(favourite < 7 && random.nextInt(3) == 0 ? favourite : random.nextInt(7)));
        }
        return tape.toString();
    }

    private String brokenText() {
        StringBuilder tape = new StringBuilder(soundText());
        String signs = " ;azw019,A\t8";
        for (int i = random.nextInt(3); i >= 0; i--) {
            int at = random.nextInt(tape.length());
            switch (random.nextInt(4)) {
                case 0 -> tape.setCharAt(at, signs.charAt(random.nextInt(signs.length())));
                case 1 -> tape.insert(at, signs.charAt(random.nextInt(signs.length())));
                case 2 -> tape.setLength(at + 1);
                default -> tape.append(line(random.nextInt(7)));
            }
        }
        return tape.toString();
    }

    private void seeWhatIs() {
        int s = s();
        int c = x.lands(s, 0);
        same("see(" + s + ", " + c + ")", x.see(s, c), model.see(s, c));
    }

    private void one(int which) {
        int s = s();
        int c = cell();
        if (which < 14) {
            told(which, s, c);
        } else if (which < 27) {
            asked(which, s, c);
        } else {
            rest(which, s, c);
        }
    }

    private void told(int which, int s, int c) {
        int a = upTo(9);
        int b = upTo(4);
        switch (which) {
            case 0 -> same("feed(" + a + ")", x.feed(a), model.feed(a));
            case 1 -> same("end(" + a + ")", x.end(a), model.end(a));
            case 2 -> tell(soundText());
            case 3 -> same("fault()", x.fault(), model.fault());
            case 4 -> same("rule(" + b + ")", x.rule(b), model.rule(b));
            case 5 -> same("saying(" + s + ", " + a + ")", x.saying(s, a), model.saying(s, a));
            case 6 -> same("hearer(" + b + ")", x.hearer(b), model.hearer(b));
            case 7 -> same("wall(" + c + ")", x.wall(c), model.wall(c));
            case 8 -> same("wind(" + a + ")", x.wind(a), model.wind(a));
            case 9 -> {
                int v = b == 1 ? c : a;
                same("alter(" + s + ", " + b + ", " + v + ")", x.alter(s, b, v), model.alter(s, b, v));
            }
            case 10 -> same("stand(" + b + ", " + c + ")", x.stand(b, c), model.stand(b, c));
            case 11 -> {
                boolean is = random.nextInt(3) > 0;
                same("build(" + c + ", " + is + ")", x.build(c, is), model.build(c, is));
            }
            case 12 -> same("blow(" + a + ", " + b + ")", x.blow(a, b), model.blow(a, b));
            default -> same("say(" + c + ", " + b + ", " + a + ")", x.say(c, b, a), model.say(c, b, a));
        }
    }

    private void asked(int which, int s, int c) {
        int w = what(1);
        int v = upTo(10);
        switch (which) {
            case 14 -> all(s);
            case 15 -> same("hears(" + s + ")", x.hears(s), model.hears(s));
            case 16 -> same("field(" + c + ", " + w + ")", x.field(c, w), model.field(c, w));
            case 17 -> same("sum(" + (w + s) + ")", x.sum(w + s), model.sum(w + s));
            case 18 -> same("most(" + w + ")", x.most(w), model.most(w));
            case 19 -> same("aim(" + s + ", " + c + ")", x.aim(s, c), model.aim(s, c));
            case 20 -> same("reach(" + s + ")", x.reach(s), model.reach(s));
            case 21 -> {
                int hit = random.nextInt(5) == 0 ? c : x.lands(s, 0);
                same("screen(" + hit + ")", x.screen(hit), model.screen(hit));
            }
            case 22 -> {
                int from = cell();
                same("walk(" + from + ", " + c + ")", x.walk(from, c), model.walk(from, c));
            }
            case 23 -> same("walks(" + c + ")", x.walks(c), model.walks(c));
            case 24 -> same("when(" + s + ", " + w + ")", x.when(s, w), model.when(s, w));
            case 25 -> {
                int to = random.nextInt(4) == 0 ? c : x.lands(s, 0);
                same("luck(" + v + ", " + s + ", " + to + ", " + w + ")", x.luck(v, s, to, w), model.luck(v, s, to, w));
            }
            default -> same("mean(" + v + ", " + w + ")", x.mean(v, w), model.mean(v, w));
        }
    }

    private void all(int s) {
        for (int what = -1; what < 4; what++) {
            same("lands(" + s + ", " + what + ")", x.lands(s, what), model.lands(s, what));
        }
    }

    private void rest(int which, int s, int c) {
        int w = what(1);
        int k = upTo(3);
        int n = upTo(40);
        int lane = what(2);
        switch (which) {
            case 27 -> same("see(" + s + ", " + c + ")", x.see(s, c), model.see(s, c));
            case 28 -> same("forget(" + k + ")", x.forget(k), model.forget(k));
            case 29 -> same("kinds(" + s + ")", x.kinds(s), model.kinds(s));
            case 30 -> same("forces(" + s + ")", x.forces(s), model.forces(s));
            case 31 -> same("froms(" + s + ", " + w + ")", x.froms(s, w), model.froms(s, w));
            case 32 -> same("look(" + s + ", " + w + ")", x.look(s, w), model.look(s, w));
            case 33 -> {
                int seed = random.nextInt();
                same("drift(" + seed + ", " + n + ", " + w + ")", x.drift(seed, n, w), model.drift(seed, n, w));
            }
            case 34 -> same("keep(" + w + ")", x.keep(w), model.keep(w));
            case 35 -> same("back(" + w + ")", x.back(w), model.back(w));
            case 36 -> same("sheet(" + k + ", " + lane + ", " + n + ")", x.sheet(k, lane, n), model.sheet(k, lane, n));
            case 37 -> layRow(k);
            case 38 -> same("read(" + k + ", " + lane + ", " + w + ", " + n % 14 + ")", x.read(k, lane, w, n % 14), model.read(k, lane, w, n % 14));
            case 39 -> same("torn()", x.torn(), model.torn());
            default -> same("count(" + (k + w) + ")", x.count(k + w), model.count(k + w));
        }
    }

    /** A SHEET laid with sayings, and read, more or less as it was laid. */
    private void layRow(int k) {
        int lane = what(2);
        int size = random.nextInt(12);
        if (random.nextInt(3) == 0) {
            same("sheet(" + k + ", " + lane + ", " + size + ")", x.sheet(k, lane, size), model.sheet(k, lane, size));
        }
        for (int i = random.nextInt(3) - 1; i < size + 2; i++) {
            int v = i % 3 == 0 ? cell() : i % 3 == 1 ? random.nextInt(4) : random.nextInt(9) + 1;
            v += random.nextInt(6) == 0 ? 256 : random.nextInt(6) == 0 ? 65536 : 0;
            same("lay(" + k + ", " + i + ", " + v + ")", x.lay(k, i, v), model.lay(k, i, v));
        }
        int n = random.nextInt(4);
        int f = 3 * random.nextInt(2);
        same("read(" + k + ", " + lane + ", " + f + ", " + n + ")", x.read(k, lane, f, n), model.read(k, lane, f, n));
        same("torn()", x.torn(), model.torn());
        same("count(4)", x.count(4), model.count(4));
    }
}
