/** Promises 8 to 10, and how LINES are asked, written, stored and taken. */
public final class LinesTest {
    private static final Due DUE = new Due("LinesTest");
    private static final int BAD = -1, LOST = -5;
    private static final int[] FAR = {Integer.MIN_VALUE, -1, Integer.MAX_VALUE};
    private static final int NEVER = 2, OTHER = 3, ROOM = 4, SET = 5;

    public static void main(String[] args) {
        lines();
        dirtyLinesAreWrittenByLines();
        linesForgetsAll();
        rule();
        who();
        late();
        line();
        storedForTheOther();
        lostBytesAreNotStored();
        causes();
        takenOnesStayInThePlay();
        twoTicksByCause();
        DUE.finish();
    }

    /** PAGES 0 to 3 in FRAMES 0 to 3: ADDRESS and CELL are one. Nothing of LINES is remembered. */
    private static CellToObject flat(int sets, int ways) {
        CellToObject x = new CellToObject();
        for (int p = 0; p < 4; p++) x.load(0, 32 * p);
        x.lines(sets, ways);
        return x;
    }

    private static void ask(CellToObject x, int processor, int... blocks) {
        for (int b : blocks) x.load(processor, 8 * b);
    }

    /** The cause of the one MISS that the load of a BLOCK is; 0 if it is none. */
    private static int missOf(CellToObject x, int processor, int block) {
        int[] before = new int[6];
        for (int c = 1; c < 6; c++) before[c] = x.count(c);
        x.load(processor, 8 * block);
        int cause = 0, misses = x.count(1) - before[1];
        for (int c = 2; c < 6; c++) if (x.count(c) > before[c]) cause = c;
        return misses == (cause == 0 ? 0 : 1) ? cause : -99;
    }

    private static void lines() {
        CellToObject x = new CellToObject();
        for (int s : new int[] {1, 2, 4}) {
            for (int w = 1; w <= 4; w++) DUE.is("lines(" + s + ", " + w + ")", x.lines(s, w), s * w);
        }
        for (int s : new int[] {0, 3, 5, 8}) DUE.is("lines(" + s + ", 1)", x.lines(s, 1), BAD);
        for (int w : new int[] {0, 5}) DUE.is("lines(1, " + w + ")", x.lines(1, w), BAD);
        for (int v : FAR) {
            DUE.is("lines(" + v + ", 1)", x.lines(v, 1), BAD);
            DUE.is("lines(1, " + v + ")", x.lines(1, v), BAD);
        }
        x = flat(4, 1);
        ask(x, 0, 0, 1, 2, 3, 4);
        DUE.is("line(0, 0): SET 0 is full", x.line(0, 0), 0);
        DUE.is("line(0, 1)", x.line(0, 1), 1);
        DUE.is("line(0, 3)", x.line(0, 3), 1);
        DUE.is("lines(9, 9): BAD changes nothing", x.lines(9, 9), BAD);
        DUE.is("line(0, 4)", x.line(0, 4), 1);
    }

    private static void dirtyLinesAreWrittenByLines() {
        CellToObject x = flat(2, 2);
        x.save(0, 5, 90);
        x.save(1, 60, 91);
        int ticks = x.count(14), row = x.open(3);
        DUE.is("cell(5, 1) before", x.cell(5, 1), 0);
        x.lines(2, 2);
        DUE.is("cell(5, 1)", x.cell(5, 1), 90);
        DUE.is("cell(60, 1)", x.cell(60, 1), 91);
        DUE.is("no ticks", x.count(14), ticks);
        DUE.is("no ROW OPENED", x.open(3), row);
        DUE.is("line(0, 0) is gone", x.line(0, 0), 0);
        DUE.is("line(1, 7) is gone", x.line(1, 7), 0);
        DUE.is("load(1, 5)", x.load(1, 5), 90);
        x = new CellToObject();
        x.frames(16);
        for (int p = 0; p < 16; p++) x.load(0, 32 * p);
        x.save(1, 511, 92);
        x.lines(1, 1);
        DUE.is("cell(511, 1): the last BLOCK", x.cell(511, 1), 92);
        DUE.is("line(1, 63)", x.line(1, 63), 0);
    }

    private static void linesForgetsAll() {
        CellToObject x = flat(1, 1);
        ask(x, 0, 0, 1);
        x.lines(1, 2);
        DUE.is("a BLOCK that had gone before", missOf(x, 0, 0), NEVER);
        x = flat(1, 1);
        ask(x, 0, 0);
        x.save(1, 0, 1);
        x.lines(1, 1);
        DUE.is("a TAKEN one", missOf(x, 0, 0), NEVER);
        x = flat(2, 1);
        ask(x, 0, 0, 2);
        x.lines(2, 1);
        ask(x, 0, 1, 0, 2);
        DUE.is("the play begins anew", missOf(x, 0, 0), SET);
        DUE.is("with SETS times WAYS BLOCKS", missOf(x, 0, 1), 0);
    }

    private static void rule() {
        CellToObject x = new CellToObject();
        int[] first = {0, 1, 0, 0}, highest = {2, 1, 2, 1};
        for (int w = 0; w < 4; w++) {
            int was = first[w];
            for (int v = 0; v <= highest[w]; v++) {
                DUE.is("rule(" + w + ", " + v + ")", x.rule(w, v), was);
                was = v;
            }
            DUE.is("rule(" + w + ", too high)", x.rule(w, highest[w] + 1), BAD);
            for (int v : FAR) DUE.is("rule(" + w + ", " + v + ")", x.rule(w, v), BAD);
            DUE.is("rule(" + w + ", 0) after BAD ones", x.rule(w, 0), was);
        }
        DUE.is("rule(4, 0)", x.rule(4, 0), BAD);
        for (int w : FAR) DUE.is("rule(" + w + ", 0)", x.rule(w, 0), BAD);
    }

    private static void who() {
        CellToObject x = flat(1, 3);
        ask(x, 0, 5, 2, 7, 5, 9);
        DUE.is("WHO 0: asked longest ago goes", x.line(0, 2), 0);
        DUE.is("WHO 0: 5 stays", x.line(0, 5), 1);
        x = flat(1, 3);
        x.rule(0, 1);
        ask(x, 0, 5, 2, 7, 5, 9);
        DUE.is("WHO 1: came longest ago goes", x.line(0, 5), 0);
        DUE.is("WHO 1: 2 stays", x.line(0, 2), 1);
        x = flat(1, 3);
        x.rule(0, 2);
        ask(x, 0, 5, 7, 2, 5, 9);
        DUE.is("WHO 2: the lowest goes", x.line(0, 2), 0);
        DUE.is("WHO 2: 5 stays", x.line(0, 5), 1);
        DUE.is("WHO 2: 7 stays", x.line(0, 7), 1);
        DUE.is("the other PROCESSOR has none", x.line(1, 9), 0);
        x = flat(1, 2);
        ask(x, 1, 3);
        ask(x, 0, 1, 2);
        x.save(0, 8, 1);
        ask(x, 0, 3);
        DUE.is("a SAVE asks too", x.line(0, 1), 2);
        DUE.is("2 went", x.line(0, 2), 0);
    }

    private static void late() {
        CellToObject x = flat(1, 2);
        x.load(0, 0);
        DUE.is("LATE 1: save of what it has", x.save(0, 0, 66), 1);
        DUE.is("LATE 1: line(0, 0)", x.line(0, 0), 2);
        DUE.is("LATE 1: cell(0, 1)", x.cell(0, 1), 0);
        x.rule(1, 0);
        long step = x.blame(0);
        DUE.is("LATE 0: save", x.save(0, 1, 67), 2);
        DUE.is("LATE 0: ticks of THE STEP", x.blame(0) - step, 2);
        DUE.is("LATE 0: the LINE as it was", x.line(0, 0), 2);
        DUE.is("LATE 0: cell(1, 1)", x.cell(1, 1), 67);
        DUE.is("LATE 0: cell(0, 1)", x.cell(0, 1), 0);
        DUE.is("load(0, 1)", x.load(0, 1), 67);
        x.load(0, 8);
        DUE.is("LATE 0: save of a clean one", x.save(0, 8, 1), 2);
        DUE.is("LATE 0: it stays clean", x.line(0, 1), 1);
        x = flat(1, 2);
        x.rule(1, 0);
        x.load(0, 0);
        x.load(0, 32);
        long row = x.blame(1);
        DUE.is("LATE 0: a ROW that is not OPEN", x.save(0, 0, 3), 7);
        DUE.is("LATE 0: its ticks", x.blame(1) - row, 5);
        DUE.is("open(0)", x.open(0), 0);
    }

    private static void line() {
        CellToObject x = flat(2, 2);
        DUE.is("line(0, 64)", x.line(0, 64), BAD);
        DUE.is("line(2, 0)", x.line(2, 0), BAD);
        for (int v : FAR) {
            DUE.is("line(" + v + ", 0)", x.line(v, 0), BAD);
            DUE.is("line(0, " + v + ")", x.line(0, v), BAD);
        }
        x.load(1, 127);
        DUE.is("line(1, 15)", x.line(1, 15), 1);
        DUE.is("line(0, 15)", x.line(0, 15), 0);
        x.save(1, 127, 0);
        DUE.is("line(1, 15), WRITTEN", x.line(1, 15), 2);
        x.save(0, 120, 4);
        DUE.is("line(1, 15), TAKEN", x.line(1, 15), 0);
        DUE.is("line(0, 15)", x.line(0, 15), 2);
        DUE.is("line(1, 63)", x.line(1, 63), 0);
    }

    private static void storedForTheOther() {
        CellToObject x = flat(2, 2);
        x.save(0, 0, 11);
        x.save(0, 7, 12);
        DUE.is("cell(7, 1) before", x.cell(7, 1), 0);
        DUE.is("load(1, 7)", x.load(1, 7), 12);
        DUE.is("cell(0, 1)", x.cell(0, 1), 11);
        DUE.is("line(0, 0) is clean", x.line(0, 0), 1);
        x.flip(0, 3);
        x.flip(0, 5);
        DUE.is("load(0, 0): LINES do not see a flip", x.load(0, 0), 11);
        x = flat(1, 1);
        x.save(0, 0, 21);
        long row = x.blame(1);
        x.load(0, 32);
        DUE.is("the DIRTY one that goes is STORED", x.cell(0, 1), 21);
        DUE.is("its ROW was OPEN, then the other's", x.blame(1) - row, 5);
    }

    private static void lostBytesAreNotStored() {
        CellToObject x = flat(2, 2);
        x.flip(5, 3);
        x.flip(5, 6);
        DUE.is("load(0, 5)", x.load(0, 5), LOST);
        x.save(0, 6, 9);
        x.flip(5, 3);
        x.lines(2, 2);
        DUE.is("cell(5, 0) as it was", x.cell(5, 0), 64);
        DUE.is("cell(6, 1)", x.cell(6, 1), 9);
        DUE.is("load(0, 5): MENDED now", x.load(0, 5), 0);
        x.flip(5, 3);
        x.flip(5, 6);
        DUE.is("load(1, 5)", x.load(1, 5), LOST);
        x.save(1, 5, 200);
        DUE.is("load(1, 5), WRITTEN", x.load(1, 5), 200);
        DUE.is("load(0, 5)", x.load(0, 5), 200);
        DUE.is("cell(5, 1)", x.cell(5, 1), 200);
    }

    private static void causes() {
        CellToObject x = flat(1, 1);
        DUE.is("NEVER", missOf(x, 0, 0), NEVER);
        DUE.is("no MISS", missOf(x, 0, 0), 0);
        DUE.is("NEVER of the other PROCESSOR", missOf(x, 1, 0), NEVER);
        ask(x, 0, 1);
        DUE.is("ROOM", missOf(x, 0, 0), ROOM);
        x.save(1, 0, 1);
        DUE.is("OTHER", missOf(x, 0, 0), OTHER);
        x.save(1, 0, 1);
        ask(x, 0, 2, 3);
        DUE.is("OTHER, though the play has it not", missOf(x, 0, 0), OTHER);
        ask(x, 0, 1);
        DUE.is("ROOM, since it was back", missOf(x, 0, 0), ROOM);
        ask(x, 0, 1);
        x.save(1, 0, 1);
        DUE.is("ROOM: it had gone before the other wrote", missOf(x, 0, 0), ROOM);
        x = flat(2, 1);
        ask(x, 0, 0, 2);
        DUE.is("SET", missOf(x, 0, 0), SET);
        ask(x, 0, 1, 2);
        DUE.is("ROOM: of the play the one asked longest ago went", missOf(x, 0, 0), ROOM);
    }

    private static void takenOnesStayInThePlay() {
        CellToObject x = flat(2, 1);
        ask(x, 0, 0, 1);
        x.save(1, 8, 1);
        ask(x, 0, 2);
        DUE.is("1 has its place in the play still", missOf(x, 0, 0), ROOM);
    }

    private static void twoTicksByCause() {
        CellToObject x = flat(1, 1);
        x.save(0, 0, 1);
        x.save(1, 8, 1);
        long never = x.blame(NEVER);
        x.load(0, 8);
        DUE.is("the other's STORED, its own STORED, one brought", x.blame(NEVER) - never, 6);
        x.save(1, 8, 2);
        long other = x.blame(OTHER);
        x.load(0, 8);
        DUE.is("OTHER: STORED and brought", x.blame(OTHER) - other, 4);
        long room = x.blame(ROOM);
        x.load(0, 0);
        DUE.is("ROOM: brought", x.blame(ROOM) - room, 2);
        x = flat(2, 1);
        x.save(0, 0, 1);
        x.save(0, 16, 1);
        long set = x.blame(SET);
        x.save(0, 0, 1);
        DUE.is("SET: STORED and brought", x.blame(SET) - set, 4);
    }
}
