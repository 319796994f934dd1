/** Promises 23 and 24: each tick on one cause, and how often each thing happened. */
public final class BlameTest {
    private static final Due DUE = new Due("BlameTest");
    private static final int BAD = -1;
    private static final int[] FAR = {Integer.MIN_VALUE, -1, Integer.MAX_VALUE};

    public static void main(String[] args) {
        wrongNumbers();
        everyCauseOnce();
        gatheringTakesAll();
        counts();
        DUE.finish();
    }

    private static void wrongNumbers() {
        CellToObject x = new CellToObject();
        DUE.is("blame(8)", x.blame(8), BAD);
        DUE.is("count(16)", x.count(16), BAD);
        for (int v : FAR) {
            DUE.is("blame(" + v + ")", x.blame(v), BAD);
            DUE.is("count(" + v + ")", x.count(v), BAD);
        }
    }

    private static void blames(String when, CellToObject x, int... ticks) {
        int sum = 0;
        for (int c = 0; c < ticks.length; c++) {
            DUE.is(when + ": blame(" + c + ")", x.blame(c), ticks[c]);
            sum += ticks[c];
        }
        DUE.is(when + ": count(14)", x.count(14), sum);
    }

    private static void everyCauseOnce() {
        CellToObject x = new CellToObject();
        x.lines(2, 1);
        x.frames(1);
        x.load(0, 0);
        blames("NEVER", x, 1, 3, 2, 0, 0, 0, 20, 0);
        x.load(0, 16);
        x.load(0, 0);
        blames("SET", x, 3, 6, 4, 0, 0, 2, 20, 0);
        x.save(1, 0, 1);
        x.load(0, 0);
        blames("OTHER: STORED and brought", x, 5, 6, 6, 4, 0, 2, 20, 0);
        x.load(0, 8);
        x.load(0, 24);
        x.load(0, 16);
        blames("ROOM", x, 8, 12, 10, 4, 2, 2, 20, 0);
        x.rule(1, 0);
        x.save(0, 16, 2);
        blames("LATE 0", x, 10, 12, 10, 4, 2, 2, 20, 0);
        x.rule(1, 1);
        x.save(0, 16, 3);
        x.save(0, 24, 3);
        x.load(0, 32);
        blames("PAGE: 20, 2, 2, 20", x, 13, 12, 12, 4, 2, 2, 64, 0);
        DUE.is("count(0)", x.count(0), 12);
        DUE.is("count(1)", x.count(1), 9);
        DUE.is("count(2)", x.count(2), 6);
        DUE.is("count(3)", x.count(3), 1);
        DUE.is("count(4)", x.count(4), 1);
        DUE.is("count(5)", x.count(5), 1);
    }

    private static void gatheringTakesAll() {
        CellToObject x = new CellToObject();
        x.make(1, 9, false);
        x.hold(false, 0, 0);
        x.lines(1, 1);
        x.frames(4);
        blames("make: two MISSES", x, 9, 6, 4, 0, 0, 0, 20, 0);
        x.gather(0);
        blames("gather: 9 asked, two MISSES", x, 9, 6, 4, 0, 0, 0, 20, 13);
        DUE.is("count(2) in it too", x.count(2), 4);
        x.get(0, 0, 8);
        blames("after it", x, 10, 6, 4, 0, 0, 0, 20, 13);

        x = new CellToObject();
        x.frames(16);
        for (int i = 0; i < 40; i++) x.make(0, 8, false);
        x.hold(false, 0, 39);
        long all = x.count(14), step = x.blame(0);
        x.make(0, 1, false);
        DUE.is("a GATHERING of make()", x.blame(7), 8);
        DUE.is("what make() SAVES is not in it", x.blame(0) - step, 1);
        DUE.holds("count(14) goes on", x.count(14) > all + 8);
    }

    private static void counts() {
        CellToObject x = new CellToObject();
        x.frames(1);
        x.save(0, 0, 1);
        x.load(1, 40);
        x.frames(1);
        DUE.is("count(6)", x.count(6), 2);
        DUE.is("count(7)", x.count(7), 1);
        x.flip(0, 12);
        x.flip(1, 0);
        x.flip(1, 1);
        x.load(0, 33);
        DUE.is("count(8)", x.count(8), 1);
        DUE.is("count(9)", x.count(9), 1);
        x.make(0, 4, true);
        x.make(0, 4, false);
        x.make(0, 4, false);
        x.hold(false, 0, 2);
        DUE.is("gather(2)", x.gather(2), 1);
        DUE.is("count(10)", x.count(10), 1);
        DUE.is("count(11)", x.count(11), 2);
        DUE.is("count(12)", x.count(12), 1);
        DUE.is("count(13)", x.count(13), 1);
        DUE.is("count(15)", x.count(15), 4);
        DUE.is("gather(1)", x.gather(1), 1);
        DUE.is("count(12) then", x.count(12), 2);
        DUE.is("count(13) then", x.count(13), 2);
        DUE.is("count(15) then", x.count(15), 8);
    }
}
