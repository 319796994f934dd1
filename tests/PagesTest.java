import java.util.HashMap;
import java.util.Map;

/** Promises 11 to 15: pages come and go by three rules, their bytes with them, and the fewest faults. */
public final class PagesTest {
    private static final Due DUE = new Due("PagesTest");
    private static final int BAD = -1, NONE = -4, LOST = -5;
    private static final int[] FAR = {Integer.MIN_VALUE, -1, Integer.MAX_VALUE};

    public static void main(String[] args) {
        frames();
        framesSendsPagesAway();
        page();
        goes();
        theHand();
        theHandIsMovedByFrames();
        aPageThatGoes();
        linesOfAPageThatGoes();
        lostBytesOnTheDisc();
        load();
        save();
        fewest();
        fewestAgainstAllWays();
        theRunIsCut();
        DUE.finish();
    }

    private static void touch(CellToObject x, int... pages) {
        for (int p : pages) x.load(0, 32 * p);
    }

    private static void frames() {
        CellToObject x = new CellToObject();
        DUE.is("frames(16)", x.frames(16), 4);
        DUE.is("frames(17)", x.frames(17), BAD);
        DUE.is("frames(0)", x.frames(0), BAD);
        for (int v : FAR) DUE.is("frames(" + v + ")", x.frames(v), BAD);
        for (int p = 0; p < 16; p++) touch(x, 31 - p);
        for (int p = 0; p < 16; p++) DUE.is("page(" + (31 - p) + ", 0)", x.page(31 - p, 0), p);
        touch(x, 0);
        DUE.is("page(31, 0): it had to go", x.page(31, 0), NONE);
        DUE.is("page(0, 0)", x.page(0, 0), 0);
        DUE.is("frames(1)", x.frames(1), 16);
        DUE.is("frames(1) again", x.frames(1), 1);
    }

    private static void framesSendsPagesAway() {
        CellToObject x = new CellToObject();
        x.save(0, 0, 50);
        x.save(1, 40, 51);
        x.save(0, 70, 52);
        x.flip(70, 3);
        int ticks = x.count(14), row = x.open(0);
        DUE.is("frames(1)", x.frames(1), 4);
        DUE.is("no ticks", x.count(14), ticks);
        DUE.is("no ROW OPENED", x.open(0), row);
        DUE.is("count(7)", x.count(7), 2);
        DUE.is("page(0, 0)", x.page(0, 0), 0);
        DUE.is("page(1, 0)", x.page(1, 0), NONE);
        DUE.is("page(2, 0)", x.page(2, 0), NONE);
        DUE.is("page(1, 1)", x.page(1, 1), 1);
        DUE.is("line(0, 0) stays", x.line(0, 0), 2);
        DUE.is("line(1, 5) goes", x.line(1, 5), 0);
        DUE.is("cell(40, 1): written first", x.cell(40, 1), 51);
        x.frames(4);
        DUE.is("load(0, 40)", x.load(0, 40), 51);
        DUE.is("count(2): NEVER, for it was forgotten", x.count(2), 4);
        DUE.is("page(1, 0): the lowest free FRAME", x.page(1, 0), 1);
        DUE.is("load(0, 70)", x.load(0, 70), 52);
        x.load(1, 70);
        x.flip(69, 8);
        int mended = x.count(8);
        x.frames(2);
        DUE.is("count(8): MENDED as it goes", x.count(8), mended + 1);
        DUE.is("cell(69, 0)", x.cell(69, 0), 0);
    }

    private static void page() {
        CellToObject x = new CellToObject();
        x.save(1, 1023, 5);
        DUE.is("page(31, 0)", x.page(31, 0), 0);
        DUE.is("page(31, 1)", x.page(31, 1), 1);
        DUE.is("page(30, 1)", x.page(30, 1), 0);
        DUE.is("page(32, 0)", x.page(32, 0), BAD);
        DUE.is("page(0, 2)", x.page(0, 2), BAD);
        for (int v : FAR) {
            DUE.is("page(" + v + ", 0)", x.page(v, 0), BAD);
            DUE.is("page(0, " + v + ")", x.page(0, v), BAD);
        }
    }

    private static void goes() {
        CellToObject x = new CellToObject();
        x.frames(3);
        touch(x, 4, 5, 6, 4, 7);
        DUE.is("GOES 0: came longest ago", x.page(4, 0), NONE);
        DUE.is("GOES 0: page(7, 0)", x.page(7, 0), 0);
        touch(x, 5, 8);
        DUE.is("GOES 0: then 5", x.page(5, 0), NONE);
        x = new CellToObject();
        x.frames(3);
        x.rule(2, 1);
        touch(x, 4, 5, 6, 4, 7);
        DUE.is("GOES 1: TOUCHED longest ago", x.page(5, 0), NONE);
        DUE.is("GOES 1: page(7, 0)", x.page(7, 0), 1);
        x.save(1, 32 * 6, 1);
        touch(x, 8);
        DUE.is("GOES 1: then 4", x.page(4, 0), NONE);
    }

    private static void theHand() {
        CellToObject x = new CellToObject();
        x.frames(3);
        x.rule(2, 2);
        touch(x, 4, 5, 6, 7);
        DUE.is("all TOUCHED: FRAME 0 goes", x.page(4, 0), NONE);
        DUE.is("page(7, 0)", x.page(7, 0), 0);
        touch(x, 5, 8);
        DUE.is("5 was TOUCHED since: 6 goes", x.page(6, 0), NONE);
        DUE.is("page(5, 0) is passed", x.page(5, 0), 1);
        DUE.is("page(8, 0)", x.page(8, 0), 2);
        touch(x, 9);
        DUE.is("7 was TOUCHED as it came, 5 goes", x.page(5, 0), NONE);
        DUE.is("page(9, 0)", x.page(9, 0), 1);
        touch(x, 10);
        DUE.is("8 is passed, 7 was passed before", x.page(7, 0), NONE);
        DUE.is("page(10, 0)", x.page(10, 0), 0);
        x = new CellToObject();
        x.frames(2);
        touch(x, 4, 5, 6);
        x.rule(2, 2);
        touch(x, 7);
        DUE.is("THE HAND stood at 0 under GOES 0", x.page(6, 0), NONE);
    }

    private static void theHandIsMovedByFrames() {
        CellToObject x = new CellToObject();
        x.frames(3);
        x.rule(2, 2);
        touch(x, 4, 5, 6, 7, 8);
        x.frames(3);
        touch(x, 9);
        DUE.is("6 goes, and from 0 on 7 and 8 were passed", x.page(6, 0), NONE);
        touch(x, 7, 10);
        DUE.is("8 goes, for 7 alone was TOUCHED since", x.page(8, 0), NONE);
        DUE.is("page(7, 0)", x.page(7, 0), 0);
    }

    private static void aPageThatGoes() {
        CellToObject x = new CellToObject();
        x.frames(1);
        DUE.is("save(0, 0, 1): 20 + 3 + 2 + 1", x.save(0, 0, 1), 26);
        DUE.is("save(1, 32, 2): 20 + 2 + 20 + 2 + 1", x.save(1, 32, 2), 45);
        DUE.is("blame(6)", x.blame(6), 62);
        DUE.is("blame(1)", x.blame(1), 3);
        DUE.is("load(0, 0)", x.load(0, 0), 1);
        DUE.is("load(0, 32)", x.load(0, 32), 2);
        DUE.is("a clean one goes for 20 too", x.blame(6), 62 + 42 + 40);
        DUE.is("count(6)", x.count(6), 4);
        DUE.is("count(7)", x.count(7), 3);
        x = new CellToObject();
        x.frames(2);
        x.save(0, 0, 1);
        touch(x, 1);
        long row = x.blame(1), page = x.blame(6);
        touch(x, 2);
        DUE.is("STORED opens ROW 0, ROW 0 is OPEN for 2", x.blame(1) - row, 5);
        DUE.is("20, 2, 20", x.blame(6) - page, 42);
    }

    private static void linesOfAPageThatGoes() {
        CellToObject x = new CellToObject();
        x.frames(1);
        x.load(0, 0);
        x.load(1, 0);
        x.load(1, 31);
        x.save(0, 0, 1);
        touch(x, 1, 0);
        DUE.is("line(1, 3)", x.line(1, 3), 0);
        int never = x.count(2);
        x.load(1, 0);
        DUE.is("TAKEN is forgotten", x.count(2), never + 1);
        x.load(1, 31);
        DUE.is("asked is forgotten", x.count(2), never + 2);
        DUE.is("count(3)", x.count(3), 0);

        // Four BLOCKS are in the play; as PAGE 1 goes two leave it, and two new ones drive out none.
        x = new CellToObject();
        x.frames(2);
        touch(x, 1, 0);
        x.lines(4, 1);
        for (int address : new int[] {0, 8, 32, 48, 72, 80}) x.load(0, address);
        DUE.is("page(1, 0): it went", x.page(1, 0), NONE);
        DUE.is("all by NEVER", x.count(2), 8);
        x.load(0, 0);
        DUE.is("count(4)", x.count(4), 0);
        DUE.is("count(5)", x.count(5), 1);
    }

    private static void lostBytesOnTheDisc() {
        CellToObject x = new CellToObject();
        x.frames(1);
        x.save(0, 0, 7);
        x.lines(2, 2);
        x.flip(0, 9);
        x.flip(0, 10);
        x.flip(1, 12);
        touch(x, 1, 0);
        DUE.is("cell(0, 0): 0 with PLACES 1 and 2 turned", x.cell(0, 0), 6);
        DUE.is("cell(1, 0): newly written", x.cell(1, 0), 0);
        DUE.is("count(8)", x.count(8), 1);
        DUE.is("load(0, 0)", x.load(0, 0), LOST);
        x.flip(0, 1);
        x.flip(0, 3);
        x.flip(0, 2);
        touch(x, 1, 0);
        DUE.is("as the bits are when it goes: 8 with one turned", x.load(0, 0), 0);
        x.save(0, 0, 9);
        touch(x, 1, 0);
        DUE.is("load(0, 0), SAVED since", x.load(0, 0), 9);
    }

    private static void load() {
        CellToObject x = new CellToObject();
        DUE.is("load(1, 1023)", x.load(1, 1023), 0);
        int ticks = x.count(14);
        DUE.is("load(2, 0)", x.load(2, 0), BAD);
        DUE.is("load(0, 1024)", x.load(0, 1024), BAD);
        for (int v : FAR) {
            DUE.is("load(" + v + ", 0)", x.load(v, 0), BAD);
            DUE.is("load(0, " + v + ")", x.load(0, v), BAD);
        }
        DUE.is("count(14) after BAD ones", x.count(14), ticks);
        DUE.is("count(0)", x.count(0), 1);
        x.save(0, 1020, 255);
        DUE.is("load(1, 1020)", x.load(1, 1020), 255);
        x.flip(28, 3);
        x.flip(28, 5);
        x.lines(1, 1);
        DUE.is("load(1, 1020), two turned", x.load(1, 1020), LOST);
        DUE.is("count(9)", x.count(9), 1);
        x.cell(28, 1);
        DUE.is("count(9): not by cell()", x.count(9), 1);
    }

    private static void save() {
        CellToObject x = new CellToObject();
        DUE.is("save(1, 100, 255)", x.save(1, 100, 255), 26);
        DUE.is("save(1, 100, 256)", x.save(1, 100, 256), BAD);
        DUE.is("save(2, 100, 0)", x.save(2, 100, 0), BAD);
        DUE.is("save(0, 1024, 0)", x.save(0, 1024, 0), BAD);
        for (int v : FAR) {
            DUE.is("save(" + v + ", 0, 0)", x.save(v, 0, 0), BAD);
            DUE.is("save(0, " + v + ", 0)", x.save(0, v, 0), BAD);
            DUE.is("save(0, 0, " + v + ")", x.save(0, 0, v), BAD);
        }
        DUE.is("load(0, 100)", x.load(0, 100), 255);
        DUE.is("page(0, 1) after BAD ones", x.page(0, 1), 0);
        DUE.is("save(0, 100, 0): TAKEN", x.save(0, 100, 0), 1);
        DUE.is("load(1, 100): 2 STORED, 2 brought, 1", x.load(1, 100), 0);
        DUE.is("count(14)", x.count(14), 26 + 2 + 2 + 1 + 1 + 2 + 2 + 1);
    }

    private static void fewest() {
        CellToObject x = new CellToObject();
        touch(x, 1, 2, 3, 4, 1, 2, 5, 1, 2, 3, 4, 5);
        DUE.is("fewest(1)", x.fewest(1), 12);
        DUE.is("fewest(3)", x.fewest(3), 7);
        DUE.is("fewest(4)", x.fewest(4), 6);
        DUE.is("fewest(5)", x.fewest(5), 5);
        DUE.is("fewest(16)", x.fewest(16), 5);
        int ticks = x.count(14);
        DUE.is("fewest(17)", x.fewest(17), BAD);
        DUE.is("fewest(0)", x.fewest(0), BAD);
        for (int v : FAR) DUE.is("fewest(" + v + ")", x.fewest(v), BAD);
        DUE.is("count(14)", x.count(14), ticks);
        touch(x, 5, 5);
        DUE.is("fewest(1): one like the one ahead", x.fewest(1), 12);
        x.frames(2);
        DUE.is("fewest(4): frames() leaves THE RUN", x.fewest(4), 6);
        x.save(1, 32 * 9, 1);
        DUE.is("fewest(16): a SAVE touches", x.fewest(16), 6);
    }

    private static void fewestAgainstAllWays() {
        long seed = 12345;
        for (int r = 0; r < 12; r++) {
            CellToObject x = new CellToObject();
            int[] run = new int[24];
            for (int i = 0; i < run.length; i++) {
                seed = seed * 6364136223846793005L + 1442695040888963407L;
                run[i] = (int) (seed >>> 40) % 7;
                if (run[i] < 0) run[i] += 7;
            }
            touch(x, run);
            for (int k = 1; k <= 5; k++) {
                DUE.is("fewest(" + k + ") of run " + r, x.fewest(k), least(run, 0, 0, k, new HashMap<>()));
            }
        }
    }

    /** Tries every PAGE that could go. */
    private static int least(int[] run, int i, int held, int k, Map<Integer, Integer> known) {
        if (i == run.length) return 0;
        int page = 1 << run[i], key = i << 8 | held;
        if ((held & page) != 0) return least(run, i + 1, held, k, known);
        if (known.containsKey(key)) return known.get(key);
        int best = Integer.MAX_VALUE;
        if (Integer.bitCount(held) < k) best = 1 + least(run, i + 1, held | page, k, known);
        else for (int b = 1; b < 128; b *= 2) {
            if ((held & b) != 0) best = Math.min(best, 1 + least(run, i + 1, held & ~b | page, k, known));
        }
        known.put(key, best);
        return best;
    }

    private static void theRunIsCut() {
        CellToObject x = new CellToObject();
        touch(x, 9);
        for (int i = 0; i < 49; i++) touch(x, 1, 2);
        touch(x, 3);
        DUE.is("fewest(16): 100 of THE RUN", x.fewest(16), 4);
        touch(x, 3);
        DUE.is("fewest(16): 3 again is left out", x.fewest(16), 4);
        touch(x, 1);
        DUE.is("fewest(16): 9 is no more of the latest 100", x.fewest(16), 3);
        DUE.is("fewest(1)", x.fewest(1), 100);
    }
}
