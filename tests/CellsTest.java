/** Promises 1 to 7: a new object, and what is told of cells, rows and wear. */
public final class CellsTest {
    private static final Due DUE = new Due("CellsTest");
    private static final int BAD = -1, NONE = -4, LOST = -5;
    private static final int[] FAR = {Integer.MIN_VALUE, -1, Integer.MAX_VALUE};

    public static void main(String[] args) {
        newObject();
        limit();
        wearTurnsAPlace();
        eachLimit();
        wearAtTheEdges();
        flip();
        refresh();
        cell();
        rightReading();
        mended();
        open();
        patterns();
        DUE.finish();
    }

    private static void newObject() {
        CellToObject x = new CellToObject();
        for (int c = 0; c < 512; c++) DUE.is("new cell(" + c + ", 0)", x.cell(c, 0), 0);
        x = new CellToObject();
        for (int b = 0; b < 4; b++) DUE.is("new open(" + b + ")", x.open(b), NONE);
        for (int p = 0; p < 32; p++) {
            DUE.is("new page(" + p + ", 0)", x.page(p, 0), NONE);
            DUE.is("new page(" + p + ", 1)", x.page(p, 1), 0);
        }
        x = new CellToObject();
        for (int b = 0; b < 64; b++) {
            DUE.is("new line(0, " + b + ")", x.line(0, b), 0);
            DUE.is("new line(1, " + b + ")", x.line(1, b), 0);
            DUE.is("new refresh(" + b % 4 + ", " + b / 4 + ")", x.refresh(b % 4, b / 4), 0);
        }
        for (int i = 0; i < 8; i++) DUE.is("new hold(false, " + i + ", -1)", x.hold(false, i, -1), -1);
        for (int i = 0; i < 4; i++) DUE.is("new hold(true, " + i + ", -1)", x.hold(true, i, -1), -1);
        for (int o = 0; o < 40; o++) DUE.is("new about(" + o + ", 0)", x.about(o, 0), BAD);
        DUE.is("new room(0, 0)", x.room(0, 0), 0);
        DUE.is("new room(0, 1)", x.room(0, 1), 1024);
        DUE.is("new room(1, 0)", x.room(1, 0), NONE);
        for (int c = 0; c < 8; c++) DUE.is("new blame(" + c + ")", x.blame(c), 0);
        for (int w = 0; w < 16; w++) DUE.is("new count(" + w + ")", x.count(w), 0);
        DUE.is("new fewest(1)", x.fewest(1), 0);
        DUE.is("new limit(0)", x.limit(0), 0);
        DUE.is("new rule(0, 0)", x.rule(0, 0), 0);
        DUE.is("new rule(1, 1)", x.rule(1, 1), 1);
        DUE.is("new rule(2, 0)", x.rule(2, 0), 0);
        DUE.is("new rule(3, 0)", x.rule(3, 0), 0);
        DUE.is("new frames(4)", x.frames(4), 4);
    }

    private static void limit() {
        CellToObject x = new CellToObject();
        DUE.is("limit(60)", x.limit(60), 0);
        DUE.is("limit(61)", x.limit(61), BAD);
        for (int v : FAR) DUE.is("limit(" + v + ")", x.limit(v), BAD);
        DUE.is("limit(0) after BAD ones", x.limit(0), 60);
        DUE.is("limit(1)", x.limit(1), 0);
        DUE.is("limit(0)", x.limit(0), 1);
    }

    /** With one LINE each load of another BLOCK opens its ROW: here PAGE n lies in FRAME and ROW n. */
    private static CellToObject bare() {
        CellToObject x = new CellToObject();
        x.lines(1, 1);
        x.frames(16);
        return x;
    }

    private static void wearTurnsAPlace() {
        CellToObject x = bare();
        x.limit(2);
        x.load(0, 0);
        x.load(0, 32);
        x.load(0, 64);
        DUE.is("cell(0, 0) with WEAR 1", x.cell(0, 0), 0);
        x.load(0, 32);
        DUE.is("cell(0, 0) with WEAR 2 of LIMIT 2", x.cell(0, 0), 8);
        DUE.is("cell(1, 0), another WORD", x.cell(1, 0), 0);
        DUE.is("cell(8, 0), another BANK", x.cell(8, 0), 0);
        DUE.is("refresh(0, 0) once it turned", x.refresh(0, 0), 0);
        DUE.is("refresh(0, 2)", x.refresh(0, 2), 1);
        DUE.is("refresh(0, 1), the OPEN one", x.refresh(0, 1), 0);
        DUE.is("refresh(0, 3), beside 2", x.refresh(0, 3), 1);

        x = bare();
        x.load(0, 0);
        x.load(0, 32);
        for (int i = 0; i < 30; i++) {
            x.load(0, 0);
            x.load(0, 32);
        }
        DUE.is("cell(64, 0), LIMIT 0", x.cell(64, 0), 0);
        x.limit(5);
        DUE.is("cell(64, 0), LIMIT 5 before an opening", x.cell(64, 0), 0);
        x.load(0, 0);
        x.load(0, 32);
        DUE.is("cell(64, 0), WEAR above LIMIT", x.cell(64, 0), 8);
        DUE.is("refresh(0, 2) once it turned", x.refresh(0, 2), 0);

        x = bare();
        x.limit(1);
        x.load(0, 0);
        x.load(0, 1);
        DUE.is("cell(32, 0): one opening", x.cell(32, 0), 8);
        x.load(0, 8);
        DUE.is("cell(40, 0): BANK 1 too", x.cell(40, 0), 8);
        x.load(0, 2);
        DUE.is("cell(32, 0): ROW 0 was OPEN still", x.cell(32, 0), 8);
    }

    private static void eachLimit() {
        for (int limit : new int[] {1, 2, 5, 30, 59, 60}) {
            CellToObject x = bare();
            x.load(0, 0);
            x.load(0, 32);
            x.load(0, 64);
            x.refresh(0, 0);
            x.limit(limit);
            for (int i = 0; i < limit; i++) {
                DUE.is("cell(0, 0), LIMIT " + limit + " WEAR " + i, x.cell(0, 0), 0);
                x.load(0, 32);
                x.load(0, 64);
            }
            DUE.is("cell(0, 0) at LIMIT " + limit, x.cell(0, 0), 8);
        }
    }

    private static void wearAtTheEdges() {
        CellToObject x = bare();
        for (int p = 0; p < 16; p++) x.load(0, 32 * p);
        DUE.is("open(0) at the last ROW", x.open(0), 15);
        DUE.is("refresh(0, 14)", x.refresh(0, 14), 1);
        DUE.is("refresh(0, 15)", x.refresh(0, 15), 0);
        DUE.is("refresh(0, 0)", x.refresh(0, 0), 1);
        DUE.is("refresh(1, 0)", x.refresh(1, 0), 0);
        x.load(0, 32 * 14);
        DUE.is("refresh(0, 15), beside 14", x.refresh(0, 15), 1);
        x.load(0, 0);
        DUE.is("refresh(0, 1)", x.refresh(0, 1), 2);
        DUE.is("refresh(0, 15) is not beside 0", x.refresh(0, 15), 0);
    }

    private static void flip() {
        CellToObject x = new CellToObject();
        int bits = 0;
        for (int place = 0; place < 13; place++) {
            bits |= 1 << place;
            DUE.is("flip(511, " + place + ")", x.flip(511, place), bits);
        }
        DUE.is("flip(511, 4) back", x.flip(511, 4), 8191 - 16);
        DUE.is("cell(510, 0)", x.cell(510, 0), 0);
        DUE.is("flip(512, 0)", x.flip(512, 0), BAD);
        DUE.is("flip(0, 13)", x.flip(0, 13), BAD);
        for (int v : FAR) {
            DUE.is("flip(" + v + ", 0)", x.flip(v, 0), BAD);
            DUE.is("flip(0, " + v + ")", x.flip(0, v), BAD);
        }
        DUE.is("cell(0, 0) after BAD ones", x.cell(0, 0), 0);
    }

    private static void refresh() {
        CellToObject x = bare();
        x.load(0, 0);
        DUE.is("refresh(0, 1)", x.refresh(0, 1), 1);
        DUE.is("refresh(0, 1) again", x.refresh(0, 1), 0);
        DUE.is("count(14): no ticks", x.count(14), 26);
        DUE.is("open(0): refresh opens none", x.open(0), 0);
        DUE.is("refresh(4, 0)", x.refresh(4, 0), BAD);
        DUE.is("refresh(0, 16)", x.refresh(0, 16), BAD);
        for (int v : FAR) {
            DUE.is("refresh(" + v + ", 0)", x.refresh(v, 0), BAD);
            DUE.is("refresh(0, " + v + ")", x.refresh(0, v), BAD);
        }
    }

    private static void cell() {
        CellToObject x = new CellToObject();
        x.rule(1, 0);
        x.save(0, 0, 7);
        DUE.is("cell(0, 0) of 7", x.cell(0, 0), 105);
        x.save(0, 0, 8);
        DUE.is("cell(0, 0) of 8", x.cell(0, 0), 150);
        for (int v = 0; v < 256; v += 5) {
            x.save(0, 3, v);
            DUE.is("cell(3, 1) of " + v, x.cell(3, 1), v);
            DUE.is("cell(3, 0) of " + v, x.cell(3, 0), PlainModel.pack(PlainModel.encode(v)));
        }
        DUE.is("cell(512, 0)", x.cell(512, 0), BAD);
        DUE.is("cell(0, 2)", x.cell(0, 2), BAD);
        for (int v : FAR) {
            DUE.is("cell(" + v + ", 0)", x.cell(v, 0), BAD);
            DUE.is("cell(0, " + v + ")", x.cell(0, v), BAD);
        }
    }

    private static void rightReading() {
        CellToObject x = new CellToObject();
        x.rule(1, 0);
        x.save(0, 0, 181);
        int bits = x.cell(0, 0);
        for (int i = 0; i < 13; i++) {
            x.flip(0, i);
            DUE.is("cell(0, 1), PLACE " + i + " turned", x.cell(0, 1), 181);
            DUE.is("cell(0, 0), nothing MENDED", x.cell(0, 0), bits ^ 1 << i);
            int j = (i + 5) % 13;
            x.flip(0, j);
            DUE.is("cell(0, 1), PLACES " + i + " and " + j, x.cell(0, 1), LOST);
            x.flip(0, i);
            x.flip(0, j);
        }
        turned(4, LOST, 0, 1, 12);
        turned(4, LOST, 0, 2, 12);
        turned(4, LOST, 0, 3, 12);
        turned(5, 7, 3, 5, 6);
        turned(6, 128, 0, 4, 8);
        turned(7, 7, 0, 3, 5, 6);
    }

    private static void turned(int cell, int due, int... places) {
        CellToObject x = new CellToObject();
        for (int p : places) x.flip(cell, p);
        DUE.is("cell(" + cell + ", 1) with " + places.length + " turned", x.cell(cell, 1), due);
        DUE.is("count(8): cell() mends nothing", x.count(8), 0);
    }

    private static void mended() {
        CellToObject x = new CellToObject();
        x.load(0, 0);
        x.flip(1, 7);
        x.flip(2, 0);
        x.flip(3, 4);
        x.flip(3, 5);
        x.flip(9, 6);
        DUE.is("load(1, 0)", x.load(1, 0), 0);
        DUE.is("cell(1, 0) MENDED", x.cell(1, 0), 0);
        DUE.is("cell(2, 0) MENDED", x.cell(2, 0), 0);
        DUE.is("cell(3, 0) LOST stays", x.cell(3, 0), 48);
        DUE.is("cell(9, 0) of another BLOCK", x.cell(9, 0), 64);
        DUE.is("count(8)", x.count(8), 2);
        DUE.is("load(1, 3)", x.load(1, 3), LOST);
        DUE.is("load(0, 3): read before", x.load(0, 3), 0);
    }

    private static void open() {
        CellToObject x = bare();
        x.load(0, 0);
        x.load(0, 32 + 24);
        DUE.is("open(0)", x.open(0), 0);
        DUE.is("open(3)", x.open(3), 1);
        DUE.is("open(1)", x.open(1), NONE);
        x.load(0, 32);
        DUE.is("open(0) then", x.open(0), 1);
        DUE.is("blame(1): 3, 3, 5", x.blame(1), 11);
        DUE.is("open(4)", x.open(4), BAD);
        for (int v : FAR) DUE.is("open(" + v + ")", x.open(v), BAD);
    }

    /** By how many right CELLS have so many ones: the nearest right one to a spoilt one is the only near one. */
    private static void patterns() {
        CellToObject x = new CellToObject();
        long[] choose = new long[14], right = new long[15];
        for (int bits = 0; bits < 8192; bits++) choose[Integer.bitCount(bits)]++;
        for (int v = 0; v < 256; v++) right[Integer.bitCount(PlainModel.pack(PlainModel.encode(v)))]++;
        for (int k = 0; k <= 13; k++) {
            long told = k == 0 ? 1 : k == 1 ? 13 : 0;
            long other = k < 2 ? 0 : k % 2 == 0 ? right[k] : right[k + 1] * (k + 1) + right[k - 1] * (14 - k);
            DUE.is("patterns(" + k + ", 0)", x.patterns(k, 0), told);
            DUE.is("patterns(" + k + ", 1)", x.patterns(k, 1), choose[k] - told - other);
            DUE.is("patterns(" + k + ", 2)", x.patterns(k, 2), other);
        }
        DUE.is("patterns(-1, 0)", x.patterns(-1, 0), BAD);
        DUE.is("patterns(14, 0)", x.patterns(14, 0), BAD);
        DUE.is("patterns(3, 3)", x.patterns(3, 3), BAD);
        for (int v : FAR) {
            DUE.is("patterns(" + v + ", 0)", x.patterns(v, 0), BAD);
            DUE.is("patterns(0, " + v + ")", x.patterns(0, v), BAD);
        }
        DUE.is("cell(0, 0) after patterns", x.cell(0, 0), 0);
    }
}
