/** Long runs of calls, each answer held against PlainModel's: all promises at once. */
public final class ModelTest {
    private static final int RUNS = 2500, CALLS = 512, MOST_IN_A_STEP = 3;

    private final Due due = new Due("ModelTest");
    private CellToObject x;
    private PlainModel m;
    private String run;
    private long seed;
    /** Some runs keep to few addresses, so that lines and pages meet. */
    private int spread;
    /** Wild runs have numbers far off; in spoilt ones many PLACES are turned; keeping ones hold all that is made. */
    private boolean wild, spoilt, keeping;
    private int lastMade, calls;

    public static void main(String[] args) {
        ModelTest test = new ModelTest();
        for (int r = 0; r < RUNS && !test.due.anyWrong(); r++) test.play(r);
        test.due.finish();
    }

    private void play(int r) {
        x = new CellToObject();
        m = new PlainModel();
        seed = 88172645463325252L + 7919L * r;
        spread = new int[] {40, 64, 200, 1024}[pick(4)];
        wild = pick(8) == 0;
        spoilt = pick(3) == 0;
        keeping = pick(4) == 0;
        lastMade = -1;
        calls = 0;
        while (calls <= CALLS - MOST_IN_A_STEP && !due.anyWrong()) {
            run = "run " + r + " call " + calls + " ";
            int part = pick(100);
            if (spoilt && part % 5 == 0) spoil();
            else if (part < 15) callCells();
            else if (part < 25) callLines();
            else if (part < 55) callPages();
            else if (part < 90) callObjects();
            else callBlame();
        }
    }

    private void callCells() {
        switch (pick(6)) {
            case 0: { int v = pick(3) > 0 ? pick(5) : number(0, 60);
                check("limit(" + v + ")", x.limit(v), m.limit(v)); break; }
            case 1: { int c = cell(), p = number(0, 12);
                check("flip(" + c + ", " + p + ")", x.flip(c, p), m.flip(c, p)); break; }
            case 2: { int b = number(0, 3), r = pick(2) > 0 ? number(0, 4) : number(0, 15);
                check("refresh(" + b + ", " + r + ")", x.refresh(b, r), m.refresh(b, r)); break; }
            case 3: { int c = cell(), w = number(0, 1);
                check("cell(" + c + ", " + w + ")", x.cell(c, w), m.cell(c, w)); break; }
            case 4: { int b = number(0, 3);
                check("open(" + b + ")", x.open(b), m.open(b)); break; }
            default: { if (pick(10) > 0) { callPages(); break; }
                int k = number(0, 13), w = number(0, 2);
                check("patterns(" + k + ", " + w + ")", x.patterns(k, w), m.patterns(k, w)); }
        }
    }

    private void spoil() {
        int c = pick(Math.min(spread, 512)), p = pick(4);
        if (pick(2) > 0) check("flip(" + c + ", 12)", x.flip(c, 12), m.flip(c, 12));
        check("flip(" + c + ", " + p + ")", x.flip(c, p), m.flip(c, p));
    }

    private void callLines() {
        switch (pick(6)) {
            case 0: { if (pick(3) > 0) { callPages(); break; }
                int s = number(0, 5), w = number(1, 4);
                check("lines(" + s + ", " + w + ")", x.lines(s, w), m.lines(s, w)); break; }
            case 1: { int w = number(0, 3), v = number(0, 2);
                check("rule(" + w + ", " + v + ")", x.rule(w, v), m.rule(w, v)); break; }
            default: { int p = number(0, 1), b = pick(2) > 0 ? number(0, 15) : number(0, 63);
                check("line(" + p + ", " + b + ")", x.line(p, b), m.line(p, b)); }
        }
    }

    private void callPages() {
        switch (pick(12)) {
            case 0: { if (pick(4) > 0) { callObjects(); break; }
                int n = pick(2) > 0 ? number(1, 4) : number(1, 16);
                check("frames(" + n + ")", x.frames(n), m.frames(n)); break; }
            case 1: { int p = number(0, 31), w = number(0, 1);
                check("page(" + p + ", " + w + ")", x.page(p, w), m.page(p, w)); break; }
            case 2: { int k = number(1, 16);
                check("fewest(" + k + ")", x.fewest(k), m.fewest(k)); break; }
            case 3: case 4: case 5: case 6: { int p = number(0, 1), a = address();
                check("load(" + p + ", " + a + ")", x.load(p, a), m.load(p, a)); break; }
            default: { int p = number(0, 1), a = address(), v = number(0, 255);
                check("save(" + p + ", " + a + ", " + v + ")", x.save(p, a, v), m.save(p, a, v)); }
        }
    }

    private void callObjects() {
        switch (pick(16)) {
            case 0: case 1: case 2: case 3: case 4: {
                int p = number(0, 1), n = pick(3) > 0 ? number(1, 24) : number(20, 24);
                boolean rite = pick(4) == 0;
                int made = x.make(p, n, rite);
                check("make(" + p + ", " + n + ", " + rite + ")", made, m.make(p, n, rite));
                if (keeping && made >= 0) keep(made);
                break; }
            case 5: case 6: { int p = number(0, 1), o = object(), f = field();
                check("get(" + p + ", " + o + ", " + f + ")", x.get(p, o, f), m.get(p, o, f)); break; }
            case 7: case 8: case 9: case 10: { int p = number(0, 1), o = object(), f = field();
                int v = pick(3) > 0 ? 128 + object() : number(0, 255);
                check("put(" + p + ", " + o + ", " + f + ", " + v + ")", x.put(p, o, f, v), m.put(p, o, f, v)); break; }
            case 11: case 12: { boolean weak = pick(3) == 0; int i = number(0, weak ? 3 : 7), o = object();
                check("hold(" + weak + ", " + i + ", " + o + ")", x.hold(weak, i, o), m.hold(weak, i, o)); break; }
            case 13: { if (pick(2) > 0) { callBlame(); break; }
                int k = number(0, 2);
                check("gather(" + k + ")", x.gather(k), m.gather(k)); break; }
            case 14: { int o = object(), w = number(0, 4);
                check("about(" + o + ", " + w + ")", x.about(o, w), m.about(o, w)); break; }
            default: { int i = number(0, 4), w = number(0, 1);
                check("room(" + i + ", " + w + ")", x.room(i, w), m.room(i, w)); }
        }
    }

    /** Each OBJECT holds the one made before it, and a ROOT holds the latest. */
    private void keep(int made) {
        if (lastMade >= 0 && pick(40) > 0) {
            check("put(1, " + made + ", 0, " + (128 + lastMade) + ")", x.put(1, made, 0, 128 + lastMade), m.put(1, made, 0, 128 + lastMade));
        }
        check("hold(false, 7, " + made + ")", x.hold(false, 7, made), m.hold(false, 7, made));
        lastMade = made;
    }

    private void callBlame() {
        if (pick(2) == 0) {
            int c = number(0, 7);
            check("blame(" + c + ")", x.blame(c), m.blame(c));
        } else {
            int w = number(0, 15);
            check("count(" + w + ")", x.count(w), m.count(w));
        }
    }

    private void check(String call, long got, long want) {
        calls++;
        due.is(run + call, got, want);
    }

    private int cell() {
        return pick(2) > 0 ? number(0, Math.min(spread, 511)) : number(0, 511);
    }

    private int address() {
        return number(0, spread - 1);
    }

    private int field() {
        int first = keeping ? 1 : 0;
        return number(first, pick(2) > 0 ? 3 : 23);
    }

    private int object() {
        return pick(20) == 0 ? number(-1, 40) : pick(3) > 0 ? number(-1, 8) : number(-1, 39);
    }

    /** Mostly from low to high, at times beside that, and in wild runs far away. */
    private int number(int low, int high) {
        if (wild && pick(30) == 0) return new int[] {Integer.MIN_VALUE, Integer.MAX_VALUE, -100, 5000}[pick(4)];
        if (pick(60) == 0) return pick(2) == 0 ? low - 1 : high + 1;
        return low + pick(high - low + 1);
    }

    private int pick(int n) {
        seed ^= seed << 13;
        seed ^= seed >>> 7;
        seed ^= seed << 17;
        return (int) ((seed >>> 33) % n);
    }
}
