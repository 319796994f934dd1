/**
 * The sentences of the document that name an edge, in its order, each with a test of its own: the lowest, the highest,
 * one too few, one too many, none, all. (What is refused beside these edges is in RefusedTest.)
 */
public final class EdgesTest {
    private static final Due DUE = new Due("EdgesTest");
    private static final int BAD = -1, FULL = -3, NONE = -4, LOST = -5;
    private static final int NEVER = 2, OTHER = 3, ROOM = 4, SET = 5;

    public static void main(String[] args) {
        whereCellsLie();
        valuesInCells();
        readingAtTheEdges();
        readingByLoad();
        opening();
        neighboursOfTheFirstAndTheLastRow();
        limitThenOrMore();
        turnedTwice();
        refreshedByAnAct();
        setsAndWaysAtFirst();
        whereBlocksBegin();
        setIsFull();
        dirtyOneIsStoredFirst();
        theOthersIsStoredBeforeOneGoes();
        onlyTheDirtyOneOfTheOther();
        sizeOfThePlay();
        playOfOneSet();
        takenThatWasNotThere();
        whatGoesIsForgotten();
        pagesBeginAt();
        framesAtFirst();
        lowestFreeFrame();
        handPassesAll();
        handWithOneFrame();
        handIsNotMovedByOtherRules();
        discAtFirst();
        lostOnTheDiscStaysLost();
        fewestFromEmptyFrames();
        fewestOfAFullRun();
        eights();
        roomsAtBothEnds();
        roomThatFitsExactly();
        fieldValues();
        allRootsAndWeakOnes();
        lowestNumber();
        fullThoughSomeDied();
        gatheringOfNone();
        ageOfTwo();
        lostFields();
        ritesOnceAlone();
        movedToTheFirstAddress();
        movedByProcessor0();
        movedByLessThanItsLength();
        lostAcrossAMove();
        allTicksOfAGathering();
        ticksOfAnObject();
        putOfItself();
        DUE.finish();
    }

    // ---- 1 CELLS

    /** PAGE n in FRAME and ROW n: ADDRESS and CELL are one below 512. Nothing of LINES is remembered. */
    private static CellToObject flat(int sets, int ways) {
        CellToObject x = new CellToObject();
        x.frames(16);
        for (int p = 0; p < 16; p++) x.load(0, 32 * p);
        x.lines(sets, ways);
        return x;
    }

    /** "CELL a is WORD a modulo 8 of BANK (a by 8, cut) modulo 4 and ROW a by 32, cut (16 ROWS of 4 BANKS)." */
    private static void whereCellsLie() {
        CellToObject x = flat(1, 1);
        for (int row = 0; row < 16; row++) {
            for (int bank = 0; bank < 4; bank++) {
                int first = 32 * row + 8 * bank, before = bank == 0 ? NONE : x.open(bank - 1);
                x.load(0, first + (row % 2 == 0 ? 0 : 7));
                DUE.is("open(" + bank + ") by CELL " + first, x.open(bank), row);
                if (bank > 0) DUE.is("open of the BANK before", x.open(bank - 1), before);
            }
        }
    }

    /** "of a value v (0 to 255) bits 0 to 7 at PLACES 3, 5, 6, 7, 9, 10, 11, 12; at 1, 2, 4, 8 .. at 0 .." */
    private static void valuesInCells() {
        CellToObject x = flat(2, 2);
        x.rule(1, 0);
        int[] values = {0, 1, 2, 4, 8, 16, 32, 64, 128, 255}, bits = {0, 15, 51, 85, 150, 771, 1285, 2310, 4369, 7918};
        for (int i = 0; i < values.length; i++) {
            x.save(0, 511, values[i]);
            DUE.is("cell(511, 0) of " + values[i], x.cell(511, 0), bits[i]);
            DUE.is("cell(511, 1) of " + values[i], x.cell(511, 1), values[i]);
        }
    }

    private static CellToObject spoilt(int cell, int... places) {
        CellToObject x = flat(2, 2);
        for (int p : places) x.flip(cell, p);
        return x;
    }

    /** "Odd: PLACE s is turned (s above 12: LOST) .. Even and s not 0: LOST." */
    private static void readingAtTheEdges() {
        DUE.is("none turned", spoilt(9).cell(9, 1), 0);
        DUE.is("odd, s 0", spoilt(9, 0).cell(9, 1), 0);
        DUE.is("odd, s 1", spoilt(9, 1).cell(9, 1), 0);
        DUE.is("odd, s 12", spoilt(9, 12).cell(9, 1), 0);
        DUE.is("odd, s 13", spoilt(9, 0, 1, 12).cell(9, 1), LOST);
        DUE.is("odd, s 14", spoilt(9, 0, 2, 12).cell(9, 1), LOST);
        DUE.is("odd, s 15", spoilt(9, 0, 3, 12).cell(9, 1), LOST);
        DUE.is("even, s 1", spoilt(9, 0, 1).cell(9, 1), LOST);
        DUE.is("even, s 12", spoilt(9, 0, 12).cell(9, 1), LOST);
        DUE.is("even, s 15", spoilt(9, 3, 12).cell(9, 1), LOST);
        DUE.is("even, s 0, all that 1 wears", spoilt(9, 0, 1, 2, 3).cell(9, 1), 1);
        DUE.is("odd, s 12 by three: 12 is turned too", spoilt(9, 3, 5, 10).cell(9, 1), 1 + 2 + 32 + 128);
    }

    /** ".. and the CELL keeps them so: MENDED .. A LOST CELL stays as it is." */
    private static void readingByLoad() {
        CellToObject x = spoilt(9, 12);
        DUE.is("load(0, 9) of one turned", x.load(0, 9), 0);
        DUE.is("its CELL", x.cell(9, 0), 0);
        DUE.is("count(8)", x.count(8), 1);
        x = spoilt(9, 0);
        x.load(0, 9);
        DUE.is("PLACE 0 is turned back", x.cell(9, 0), 0);
        DUE.is("count(8) of PLACE 0", x.count(8), 1);
        x = spoilt(9, 0, 1, 12);
        DUE.is("load(0, 9), s 13", x.load(0, 9), LOST);
        DUE.is("its CELL stays", x.cell(9, 0), 1 + 2 + 4096);
        x = spoilt(9, 4, 8);
        DUE.is("load(0, 9), s 12, even", x.load(0, 9), LOST);
        DUE.is("that CELL stays", x.cell(9, 0), 16 + 256);
        DUE.is("count(8), LOST", x.count(8), 0);
        x = spoilt(9, 3, 5, 10);
        DUE.is("load(0, 9): told wrong", x.load(0, 9), 163);
        DUE.is("count(8) has it", x.count(8), 1);
        DUE.is("its CELL is right for that", x.cell(9, 0), 8 + 32 + 1024 + 4096);
    }

    /** "OPENED is a ROW that is not: 2 ticks, if another one was OPEN there, and 3." */
    private static void opening() {
        CellToObject x = new CellToObject();
        x.frames(16);
        long[] due = {3, 3, 3, 8, 8, 13, 13};
        int[] addresses = {0, 1, 0, 32, 33, 0, 1};
        x.lines(1, 1);
        for (int i = 0; i < due.length; i++) {
            x.load(i % 2, addresses[i]);
            DUE.is("blame(1) after load " + i, x.blame(1), due[i]);
        }
        DUE.is("open(0)", x.open(0), 0);
        for (int b = 1; b < 4; b++) DUE.is("open(" + b + "): none at first", x.open(b), NONE);
    }

    /** "its WEAR is 0, and that of its neighbours (ROW 1 less, then 1 more, of that BANK) 1 more." */
    private static void neighboursOfTheFirstAndTheLastRow() {
        CellToObject x = flat(1, 1);
        x.limit(1);
        x.load(0, 24);
        DUE.is("ROW 0: 1 more", x.cell(56, 0), 8);
        DUE.is("ROW 0 has none 1 less", x.cell(504, 0), 0);
        DUE.is("of that BANK alone", x.cell(32, 0), 0);
        DUE.is("WORD 0 alone", x.cell(57, 0), 0);
        x.load(0, 504);
        DUE.is("ROW 15: 1 less", x.cell(472, 0), 8);
        DUE.is("ROW 15 has none 1 more", x.cell(24, 0), 0);
        x.load(0, 8 * 4 + 24 + 32 * 6);
        DUE.is("ROW 7: 1 less", x.cell(216, 0), 8);
        DUE.is("ROW 7: 1 more", x.cell(280, 0), 8);
        DUE.is("ROW 7 itself", x.cell(248, 0), 0);
    }

    /** PAGES 0 and 1 by turns: ROW 2 of BANK 0 wears by one each time. */
    private static void wear(CellToObject x, int times) {
        for (int i = 0; i < times; i++) {
            x.load(0, 0);
            x.load(0, 32);
        }
    }

    /** "where this is LIMIT then, or more (0 to 60; 0, at first: never)". */
    private static void limitThenOrMore() {
        CellToObject x = flat(1, 1);
        x.refresh(0, 2);
        wear(x, 70);
        DUE.is("LIMIT 0: never", x.cell(64, 0), 0);
        DUE.is("WEAR is kept", x.refresh(0, 2), 70);
        x.limit(60);
        wear(x, 59);
        DUE.is("WEAR 59 of 60", x.cell(64, 0), 0);
        wear(x, 1);
        DUE.is("WEAR 60 of 60", x.cell(64, 0), 8);
        DUE.is("and 0 then", x.refresh(0, 2), 0);
        wear(x, 5);
        x.limit(5);
        DUE.is("LIMIT comes down to WEAR: not yet", x.cell(64, 0), 8);
        x.limit(3);
        wear(x, 1);
        DUE.is("WEAR 6, LIMIT 3: turned", x.cell(64, 0), 0);
        wear(x, 2);
        x.limit(0);
        wear(x, 3);
        DUE.is("LIMIT 0 again: never", x.cell(64, 0), 0);
        DUE.is("WEAR went on", x.refresh(0, 2), 5);
    }

    /** "PLACE 3 of WORD 0 there is turned, and WEAR is 0." */
    private static void turnedTwice() {
        CellToObject x = flat(1, 1);
        wear(x, 1);
        x.limit(1);
        wear(x, 1);
        DUE.is("turned", x.cell(64, 0), 8);
        wear(x, 1);
        DUE.is("turned back", x.cell(64, 0), 0);
        x.flip(64, 0);
        wear(x, 1);
        DUE.is("beside another one", x.cell(64, 0), 9);
        x.rule(1, 0);
        x.save(0, 64, 255);
        DUE.is("a whole one", x.cell(64, 0), 7918);
        wear(x, 1);
        DUE.is("PLACE 3 of it", x.cell(64, 0), 7918 - 8);
    }

    /** "REFRESHED is a ROW by an act: WEAR 0, no ticks." */
    private static void refreshedByAnAct() {
        CellToObject x = flat(1, 1);
        x.limit(2);
        x.refresh(0, 2);
        for (int i = 0; i < 6; i++) {
            wear(x, 1);
            int ticks = x.count(14);
            DUE.is("refresh(0, 2)", x.refresh(0, 2), 1);
            DUE.is("no ticks", x.count(14), ticks);
        }
        DUE.is("never turned", x.cell(64, 0), 0);
        DUE.is("open(0)", x.open(0), 1);
        DUE.is("refresh(3, 15), the last", x.refresh(3, 15), 0);
    }

    // ---- 2 LINES

    private static void ask(CellToObject x, int processor, int... blocks) {
        for (int b : blocks) x.load(processor, 8 * b);
    }

    private static void has(CellToObject x, int processor, int... blocks) {
        for (int b : blocks) DUE.is("line(" + processor + ", " + b + "): there", x.line(processor, b), 1);
    }

    private static void hasNot(CellToObject x, int processor, int... blocks) {
        for (int b : blocks) DUE.is("line(" + processor + ", " + b + "): gone", x.line(processor, b), 0);
    }

    /** The cause of the one MISS that the load of a BLOCK is; 0 if it is none. */
    private static int missOf(CellToObject x, int processor, int block) {
        int[] before = new int[6];
        for (int c = 1; c < 6; c++) before[c] = x.count(c);
        x.load(processor, 8 * block);
        int cause = 0, misses = x.count(1) - before[1];
        for (int c = 2; c < 6; c++) if (x.count(c) > before[c]) cause = c;
        return misses == (cause == 0 ? 0 : 1) ? cause : -99;
    }

    /** "each PROCESSOR (0, 1) has SETS (1, 2, 4; 2 at first) times WAYS (1 to 4; 2 at first)." */
    private static void setsAndWaysAtFirst() {
        for (int p = 0; p < 2; p++) {
            CellToObject x = new CellToObject();
            ask(x, p, 0, 1, 2, 3);
            has(x, p, 0, 1, 2, 3);
            hasNot(x, 1 - p, 0, 1, 2, 3);
            ask(x, p, 4);
            hasNot(x, p, 0);
            has(x, p, 1, 2, 3, 4);
            ask(x, p, 5);
            hasNot(x, p, 0, 1);
            has(x, p, 2, 3, 4, 5);
            x = new CellToObject();
            ask(x, p, 1, 3, 5);
            hasNot(x, p, 1);
            has(x, p, 3, 5);
        }
    }

    /** "BLOCK b (0 to 63) are CELLS 8 b to 8 b + 7". */
    private static void whereBlocksBegin() {
        CellToObject x = flat(1, 4);
        x.load(0, 7);
        has(x, 0, 0);
        hasNot(x, 0, 1);
        x.load(0, 8);
        has(x, 0, 0, 1);
        x.load(1, 511);
        has(x, 1, 63);
        hasNot(x, 1, 62);
        x.load(1, 503);
        has(x, 1, 62, 63);
        hasNot(x, 0, 63);
    }

    /** "it may lie in a LINE of SET b modulo SETS .. If the SET is full, one goes". */
    private static void setIsFull() {
        for (int sets = 1; sets <= 4; sets *= 2) {
            for (int ways = 1; ways <= 4; ways++) {
                CellToObject x = flat(sets, ways);
                for (int i = 0; i < ways; i++) ask(x, 1, sets * i);
                for (int s = 1; s < sets; s++) ask(x, 1, s + 4);
                for (int i = 0; i < ways; i++) has(x, 1, sets * i);
                ask(x, 1, sets * ways);
                hasNot(x, 1, 0);
                for (int i = 1; i <= ways; i++) has(x, 1, sets * i);
                for (int s = 1; s < sets; s++) has(x, 1, s + 4);
            }
        }
    }

    /** "a DIRTY one is STORED first. Then ROW OPENED": so its own ROW is not OPEN any more, where the BANK is one. */
    private static void dirtyOneIsStoredFirst() {
        CellToObject x = flat(1, 1);
        x.save(0, 0, 8);
        x.load(1, 64);
        long row = x.blame(1), never = x.blame(2);
        x.load(0, 32);
        DUE.is("ROW 0, then ROW 1: 5 and 5", x.blame(1) - row, 10);
        DUE.is("2 STORED, 2 brought", x.blame(2) - never, 4);
        DUE.is("open(0)", x.open(0), 1);
        DUE.is("cell(0, 0)", x.cell(0, 0), 150);
        never = x.blame(2);
        x.load(0, 64);
        DUE.is("a clean one is not STORED", x.blame(2) - never, 2);
    }

    /** "if the other one has it DIRTY, that is STORED. If the SET is full, one goes": ROWS 0, 1, 0 of one BANK. */
    private static void theOthersIsStoredBeforeOneGoes() {
        CellToObject x = flat(1, 1);
        x.save(1, 0, 5);
        x.save(0, 32, 6);
        DUE.is("open(0)", x.open(0), 1);
        long row = x.blame(1), never = x.blame(NEVER);
        DUE.is("load(0, 0)", x.load(0, 0), 5);
        DUE.is("ROW 0, ROW 1, ROW 0", x.blame(1) - row, 15);
        DUE.is("two STORED, one brought", x.blame(NEVER) - never, 6);
    }

    /** "if the other one has it DIRTY, that is STORED": and else nothing is. */
    private static void onlyTheDirtyOneOfTheOther() {
        CellToObject x = flat(1, 2);
        x.load(1, 0);
        x.save(1, 32, 9);
        long never = x.blame(2);
        x.load(0, 0);
        DUE.is("the other one's is clean", x.blame(2) - never, 2);
        DUE.is("its other one stays DIRTY", x.line(1, 4), 2);
        DUE.is("both have it", x.line(1, 0) + x.line(0, 0), 2);
        x.save(0, 32, 10);
        DUE.is("WRITTEN: STORED, then TAKEN", x.line(1, 4), 0);
        DUE.is("DIRTY here", x.line(0, 4), 2);
        DUE.is("cell(32, 1): what was STORED", x.cell(32, 1), 9);
        x.save(0, 0, 1);
        DUE.is("a clean one is TAKEN too", x.line(1, 0), 0);
    }

    /** "PLAYED BESIDE it is not there either: SETS times WAYS BLOCKS .. of which that asked longest ago goes". */
    private static void sizeOfThePlay() {
        for (int sets = 2; sets <= 4; sets += 2) {
            for (int ways = 1; ways <= 4; ways++) {
                for (int more = 0; more < 2; more++) {
                    CellToObject x = flat(sets, ways);
                    ask(x, 0, 0);
                    for (int i = 1; i <= ways; i++) ask(x, 0, sets * i);
                    hasNot(x, 0, 0);
                    int others = sets * ways - 1 - ways + more;
                    for (int i = 0; i < others; i++) ask(x, 0, 1 + sets * i);
                    DUE.is("play of " + sets + " times " + ways + ", " + (ways + others) + " others",
                        missOf(x, 0, 0), more == 0 ? SET : ROOM);
                }
            }
        }
        CellToObject x = flat(2, 1);
        ask(x, 0, 0, 2, 0, 1);
        DUE.is("asked once more, 2 is the oldest of the play", missOf(x, 0, 2), ROOM);
        x = flat(2, 1);
        ask(x, 0, 0, 2);
        ask(x, 1, 1, 3, 5, 7);
        DUE.is("each PROCESSOR has its own play", missOf(x, 0, 0), SET);
    }

    /** With one SET, WHO alone makes LINES and play differ. */
    private static void playOfOneSet() {
        CellToObject x = flat(1, 2);
        ask(x, 0, 0, 1, 2);
        DUE.is("WHO 0: 0 is in neither", missOf(x, 0, 0), ROOM);
        x = flat(1, 2);
        x.rule(0, 2);
        ask(x, 0, 1, 5, 1, 7);
        DUE.is("WHO 2: 1 went, the play has it", missOf(x, 0, 1), SET);
        x = flat(1, 2);
        x.rule(0, 1);
        ask(x, 0, 1, 5, 1, 7);
        DUE.is("WHO 1: 1 went, the play has it", missOf(x, 0, 1), SET);
        DUE.is("WHO 1: 7 is there still", missOf(x, 0, 7), 0);
    }

    /** "OTHER: it went by being TAKEN, and was not back". */
    private static void takenThatWasNotThere() {
        CellToObject x = flat(1, 1);
        x.save(1, 0, 1);
        DUE.is("asked never before", missOf(x, 0, 0), NEVER);
        ask(x, 0, 1);
        x.save(1, 0, 2);
        DUE.is("it went for 1, not TAKEN", missOf(x, 0, 0), ROOM);
        x.save(1, 0, 3);
        x.save(1, 0, 4);
        DUE.is("TAKEN", missOf(x, 0, 0), OTHER);
        DUE.is("back", missOf(x, 0, 0), 0);
        ask(x, 0, 1);
        DUE.is("went for 1, since it was back", missOf(x, 0, 0), ROOM);
    }

    /** "lines(), frames() and a PAGE that goes: .. all that was remembered of their BLOCKS .. is forgotten." */
    private static void whatGoesIsForgotten() {
        CellToObject x = flat(1, 2);
        ask(x, 1, 12, 4);
        x.save(0, 96, 1);
        x.frames(3);
        x.frames(16);
        DUE.is("frames(): of PAGE 3's BLOCKS", missOf(x, 1, 12), NEVER);
        DUE.is("not of PAGE 1's", missOf(x, 1, 4), 0);
        x = flat(1, 2);
        ask(x, 0, 5, 6, 7);
        x.lines(1, 2);
        for (int b = 5; b <= 7; b++) DUE.is("lines(): BLOCK " + b, missOf(x, 0, b), NEVER);
        DUE.is("and not again", missOf(x, 0, 5), ROOM);
    }

    // ---- 3 PAGES

    /** "ADDRESS x (0 to 1023) is byte x modulo 32 of PAGE x by 32. FRAME f (0 to 15) are CELLS of ROW f". */
    private static void pagesBeginAt() {
        CellToObject x = new CellToObject();
        x.load(0, 31);
        DUE.is("page(0, 1) by 31", x.page(0, 1), 1);
        DUE.is("page(1, 1) by 31", x.page(1, 1), 0);
        x.load(0, 32);
        DUE.is("page(1, 1) by 32", x.page(1, 1), 1);
        x.load(1, 1023);
        DUE.is("page(31, 1) by 1023", x.page(31, 1), 1);
        x.load(1, 991);
        DUE.is("page(30, 1) by 991", x.page(30, 1), 1);
        DUE.is("page(30, 0)", x.page(30, 0), 3);
        x.rule(1, 0);
        x.save(0, 1023, 8);
        DUE.is("cell(95, 0): the last of FRAME 2", x.cell(95, 0), 150);
        x.save(0, 960, 8);
        DUE.is("cell(96, 0): the first of FRAME 3", x.cell(96, 0), 150);
    }

    private static void touch(CellToObject x, int... pages) {
        for (int p : pages) x.load(0, 32 * p);
    }

    /** "FRAMES 0 to n - 1 (n 1 to 16; 4 at first) are for PAGES." */
    private static void framesAtFirst() {
        CellToObject x = new CellToObject();
        touch(x, 20, 21, 22, 23);
        for (int p = 20; p < 24; p++) DUE.is("page(" + p + ", 0)", x.page(p, 0), p - 20);
        touch(x, 24);
        DUE.is("the fifth: page(20, 0)", x.page(20, 0), NONE);
        DUE.is("the fifth: page(24, 0)", x.page(24, 0), 0);
        for (int n = 1; n <= 16; n++) {
            x = new CellToObject();
            x.frames(n);
            for (int p = 0; p < n; p++) touch(x, p);
            DUE.is(n + " FRAMES: PAGES that went", x.count(7), 0);
            DUE.is(n + " FRAMES: the last", x.page(n - 1, 0), n - 1);
            touch(x, n);
            DUE.is(n + " FRAMES: one went", x.count(7), 1);
            DUE.is(n + " FRAMES: the first", x.page(0, 0), NONE);
        }
    }

    /** "it gets the lowest FRAME that is free; if none is, one goes". */
    private static void lowestFreeFrame() {
        CellToObject x = new CellToObject();
        touch(x, 5, 6, 7, 8);
        x.frames(2);
        x.frames(4);
        touch(x, 9);
        DUE.is("page(9, 0)", x.page(9, 0), 2);
        touch(x, 7);
        DUE.is("page(7, 0)", x.page(7, 0), 3);
        DUE.is("count(7): by frames() alone", x.count(7), 2);
        touch(x, 8);
        DUE.is("page(8, 0): 5 came longest ago", x.page(8, 0), 0);
        DUE.is("page(5, 0)", x.page(5, 0), NONE);
        x.frames(5);
        touch(x, 5);
        DUE.is("one FRAME more", x.page(5, 0), 4);
    }

    /** "a FRAME whose PAGE was TOUCHED since .. is passed, the first one else goes; THE HAND stands behind it". */
    private static void handPassesAll() {
        CellToObject x = new CellToObject();
        x.rule(2, 2);
        touch(x, 5, 6, 7, 8, 9);
        DUE.is("all are passed once, FRAME 0 goes", x.page(9, 0), 0);
        touch(x, 10, 11, 12);
        DUE.is("no other was TOUCHED since: FRAME 1", x.page(10, 0), 1);
        DUE.is("FRAME 2", x.page(11, 0), 2);
        DUE.is("FRAME 3", x.page(12, 0), 3);
        touch(x, 13);
        DUE.is("behind the last FRAME: 0", x.page(13, 0), 0);
        touch(x, 10, 14);
        DUE.is("FRAME 1 is TOUCHED, 2 was passed: it goes", x.page(14, 0), 2);
        touch(x, 15);
        DUE.is("FRAME 3 was passed in that turn", x.page(15, 0), 3);
        touch(x, 16);
        DUE.is("13 was TOUCHED as it came, 10 was passed: FRAME 1", x.page(16, 0), 1);
    }

    private static void handWithOneFrame() {
        CellToObject x = new CellToObject();
        x.frames(1);
        x.rule(2, 2);
        for (int p = 0; p < 5; p++) {
            touch(x, p);
            DUE.is("page(" + p + ", 0)", x.page(p, 0), 0);
        }
        DUE.is("count(7)", x.count(7), 4);
    }

    /** THE HAND and what was TOUCHED since stay while another rule says who goes. */
    private static void handIsNotMovedByOtherRules() {
        CellToObject x = new CellToObject();
        x.frames(3);
        x.rule(2, 2);
        touch(x, 1, 2, 3, 4);
        x.rule(2, 0);
        touch(x, 5, 3);
        DUE.is("GOES 0: 2 went", x.page(5, 0), 1);
        x.rule(2, 2);
        touch(x, 6);
        DUE.is("THE HAND at FRAME 1 passes 5 and 3, then 4, and 5 goes", x.page(6, 0), 1);
        touch(x, 7);
        DUE.is("3 was passed", x.page(7, 0), 2);
        touch(x, 8);
        DUE.is("4 was passed", x.page(8, 0), 0);
    }

    /** "One that comes has its bytes from there (0 at first), newly written to CELLS". */
    private static void discAtFirst() {
        CellToObject x = new CellToObject();
        x.frames(1);
        x.flip(0, 3);
        x.flip(31, 12);
        x.flip(32, 1);
        x.load(0, 8);
        DUE.is("cell(0, 0)", x.cell(0, 0), 0);
        DUE.is("cell(31, 0)", x.cell(31, 0), 0);
        DUE.is("cell(32, 0) of another FRAME", x.cell(32, 0), 2);
        DUE.is("count(8): not by reading", x.count(8), 0);
        x.save(0, 31, 255);
        x.load(0, 1000);
        DUE.is("cell(31, 0): 0 of PAGE 31", x.cell(31, 0), 0);
        x.load(0, 0);
        DUE.is("cell(31, 0): 255 of PAGE 0", x.cell(31, 0), 7918);
        DUE.is("open(3): STORED as it went", x.open(3), 0);
        DUE.is("open(2): THE DISC opens no ROW", x.open(2), NONE);
    }

    /** "LOST ones as LOST .. a LOST one as 0 with PLACES 1 and 2 turned." */
    private static void lostOnTheDiscStaysLost() {
        CellToObject x = new CellToObject();
        x.frames(1);
        x.save(0, 3, 200);
        x.lines(1, 1);
        x.flip(3, 4);
        x.flip(3, 5);
        for (int i = 0; i < 3; i++) {
            touch(x, 1);
            DUE.is("cell(3, 0) of PAGE 1", x.cell(3, 0), 0);
            touch(x, 0);
            DUE.is("cell(3, 0), LOST", x.cell(3, 0), 6);
            DUE.is("load(1, 3)", x.load(1, 3), LOST);
        }
        DUE.is("count(8)", x.count(8), 0);
        DUE.is("count(9)", x.count(9), 3);
        x.frames(1);
        DUE.is("frames(1): it stays", x.load(0, 3), LOST);
        x.frames(2);
        touch(x, 1);
        x.save(0, 35, 7);
        x.lines(2, 2);
        x.flip(35, 0);
        x.flip(35, 1);
        x.frames(1);
        x.frames(2);
        DUE.is("LOST by frames()", x.load(0, 35), LOST);
        DUE.is("cell(35, 0)", x.cell(35, 0), 6);
    }

    /** "FEWEST for k FRAMES: the fewest FAULTS that any rule could have in it, from empty FRAMES." (k 1 to 16) */
    private static void fewestFromEmptyFrames() {
        CellToObject x = new CellToObject();
        for (int k = 1; k <= 16; k++) DUE.is("fewest(" + k + ") of none", x.fewest(k), 0);
        touch(x, 31);
        for (int k = 1; k <= 16; k++) DUE.is("fewest(" + k + ") of one", x.fewest(k), 1);
        touch(x, 31, 0, 31);
        DUE.is("fewest(1) of 31, 0, 31", x.fewest(1), 3);
        DUE.is("fewest(2) of 31, 0, 31", x.fewest(2), 2);
        x = new CellToObject();
        for (int turn = 0; turn < 2; turn++) for (int p = 0; p < 17; p++) touch(x, p);
        DUE.is("fewest(16) of 17 twice", x.fewest(16), 18);
        DUE.is("fewest(15) of 17 twice", x.fewest(15), 19);
        DUE.is("fewest(1) of 17 twice", x.fewest(1), 34);
        DUE.is("FAULTS with 4 FRAMES by GOES 0", x.count(6), 34);
    }

    /** "THE RUN are PAGES as they were TOUCHED, one like the one ahead of it left out, the latest 100." */
    private static void fewestOfAFullRun() {
        CellToObject x = new CellToObject();
        for (int i = 0; i < 99; i++) touch(x, i % 2);
        DUE.is("fewest(1) of 99", x.fewest(1), 99);
        touch(x, 0, 0, 0);
        DUE.is("fewest(1), the same again", x.fewest(1), 99);
        touch(x, 1);
        DUE.is("fewest(1) of 100", x.fewest(1), 100);
        touch(x, 2);
        DUE.is("fewest(1) of 101", x.fewest(1), 100);
        DUE.is("fewest(2)", x.fewest(2), 3);
        for (int i = 0; i < 98; i++) touch(x, 3 + i % 2);
        DUE.is("fewest(16): 1, 2, then 3 and 4", x.fewest(16), 4);
        touch(x, 3);
        DUE.is("fewest(16): 2, then 3 and 4", x.fewest(16), 3);
        touch(x, 4);
        DUE.is("fewest(16): 3 and 4 alone", x.fewest(16), 2);
        touch(x, 4, 4);
        DUE.is("fewest(16) stays", x.fewest(16), 2);
        DUE.is("fewest(1) of a full one", x.fewest(1), 100);
    }

    // ---- 4 ROOMS

    /** "OBJECTS 0 to 39 have n FIELDS (1 to 24) .. and take n rounded up to eights". */
    private static void eights() {
        for (int n = 1; n <= 24; n++) {
            CellToObject x = new CellToObject();
            DUE.is("make(0, " + n + ", false)", x.make(0, n, false), 0);
            DUE.is("about(0, 1)", x.about(0, 1), n);
            DUE.is("room(0, 0) of " + n, x.room(0, 0), n <= 8 ? 8 : n <= 16 ? 16 : 24);
            DUE.is("get(0, 0, n - 1)", x.get(0, 0, n - 1), 0);
            DUE.is("get(0, 0, n)", x.get(0, 0, n), BAD);
            DUE.is("put(0, 0, n, 0)", x.put(0, 0, n, 0), BAD);
            DUE.is("count(0): n SAVED, one LOADED", x.count(0), n + 1);
        }
    }

    /** Ten more of 24 fill what is behind 20 of 24 and 20 of 16 (of which those died): up to 1023. */
    private static CellToObject filledToTheEnd(int fit) {
        CellToObject x = new CellToObject();
        x.frames(16);
        for (int i = 0; i < 40; i++) x.make(0, i % 2 == 0 ? 24 : 16, false);
        x.hold(false, 0, 0);
        x.hold(false, 1, 2);
        for (int i = 0; i < 20; i++) x.put(0, 0, i, 128 + 2 * i);
        x.gather(0);
        x.rule(3, fit);
        for (int i = 0; i < 10; i++) {
            x.make(0, 24, false);
            x.put(0, 2, i, 128 + 2 * i + 1);
        }
        return x;
    }

    /** "ROOMS lie in ADDRESSES 0 to 1023 .. Free ROOMS side by side are one." */
    private static void roomsAtBothEnds() {
        CellToObject x = filledToTheEnd(0);
        DUE.is("about(19, 0): the last", x.about(19, 0), 1000);
        DUE.is("about(19, 1)", x.about(19, 1), 24);
        DUE.is("put(0, 19, 23, 5): ADDRESS 1023", x.put(0, 19, 23, 5), x.about(19, 4));
        DUE.is("load(1, 1023)", x.load(1, 1023), 5);
        DUE.is("room(18, 0)", x.room(18, 0), 744);
        DUE.is("room(18, 1)", x.room(18, 1), 16);
        DUE.is("room(19, 0): none behind", x.room(19, 0), NONE);
        DUE.is("make(0, 24, true): no ROOM, though 304 are free", x.make(0, 24, true), FULL);
        x.put(0, 2, 9, 0);
        x.gather(0);
        DUE.is("room(19, 0): the last is free", x.room(19, 0), 1000);
        DUE.is("room(19, 1)", x.room(19, 1), 24);
        DUE.is("room(20, 0)", x.room(20, 0), NONE);
        x.put(0, 2, 8, 0);
        x.gather(0);
        DUE.is("joined: room(19, 0)", x.room(19, 0), 976);
        DUE.is("joined: room(19, 1)", x.room(19, 1), 48);
        x.put(0, 0, 19, 0);
        x.gather(0);
        DUE.is("not joined: about(20, 0) is between", x.room(18, 0), 744);
        x.hold(false, 0, -1);
        x.hold(false, 1, -1);
        x.gather(0);
        DUE.is("all is one: room(0, 0)", x.room(0, 0), 0);
        DUE.is("all is one: room(0, 1)", x.room(0, 1), 1024);
        DUE.is("all is one: room(1, 0)", x.room(1, 0), NONE);
    }

    /** "from the lowest free ROOM that is great enough, FIT 1 from the smallest, of several the lowest". */
    private static void roomThatFitsExactly() {
        for (int fit = 0; fit < 2; fit++) {
            CellToObject x = filledToTheEnd(fit);
            DUE.is("FIT " + fit + ": 17 find no ROOM of 16", x.make(0, 17, false), FULL);
            DUE.is("FIT " + fit + ": 16 do", x.make(0, 16, false), 21);
            DUE.is("FIT " + fit + ": of several the lowest", x.about(21, 0), 24);
            DUE.is("FIT " + fit + ": 1", x.make(0, 1, false), 23);
            DUE.is("FIT " + fit + ": the next lowest", x.about(23, 0), 64);
            DUE.is("FIT " + fit + ": 9", x.make(0, 9, false), 25);
            DUE.is("FIT " + fit + ": eight are too few", x.about(25, 0), 104);
            DUE.is("FIT " + fit + ": 8", x.make(0, 8, false), 27);
            DUE.is("FIT " + fit + ": eight are enough", x.about(27, 0), 72);
        }
        CellToObject x = new CellToObject();
        for (int n : new int[] {24, 8, 8, 8, 16, 8}) x.make(0, n, false);
        for (int i = 0; i < 3; i++) x.hold(false, i, 1 + 2 * i);
        x.gather(0);
        x.rule(3, 1);
        DUE.is("FIT 1: 1 FIELD", x.make(0, 1, false), 0);
        DUE.is("FIT 1: the smallest, not the lowest", x.about(0, 0), 32);
        DUE.is("FIT 1: 9 FIELDS", x.make(0, 9, false), 2);
        DUE.is("FIT 1: of 16", x.about(2, 0), 48);
        DUE.is("FIT 1: 10 FIELDS", x.make(0, 10, false), 4);
        DUE.is("FIT 1: of 24, at its beginning", x.about(4, 0), 0);
        DUE.is("room(0, 0): what is left of it", x.room(0, 0), 16);
        DUE.is("room(0, 1)", x.room(0, 1), 8);
    }

    /** "A FIELD is 0 nothing, 1 to 127 a number, 128 + k OBJECT k (if there is none: nothing)." */
    private static void fieldValues() {
        int[] values = {0, 1, 39, 127, 128, 129, 167, 168, 255};
        int[] died = {39, 39, 39, 39, 38, 39, 38, 39, 39};
        for (int i = 0; i < values.length; i++) {
            CellToObject x = new CellToObject();
            for (int o = 0; o < 40; o++) x.make(0, 2, false);
            x.hold(false, 0, 1);
            x.save(0, 9, values[i]);
            DUE.is("gather(0), FIELD 1 is " + values[i], x.gather(0), died[i]);
            DUE.is("get(0, 1, 1): as it is", x.get(0, 1, 1), values[i]);
            if (values[i] == 128) DUE.is("about(0, 2)", x.about(0, 2), 1);
            if (values[i] == 167) DUE.is("about(39, 2)", x.about(39, 2), 1);
        }
        CellToObject x = new CellToObject();
        for (int o = 0; o < 2; o++) x.make(0, 2, false);
        x.hold(false, 0, 0);
        x.put(0, 0, 0, 128 + 1);
        x.put(0, 0, 1, 127);
        x.hold(true, 0, 1);
        x.save(0, 0, 0);
        x.gather(0);
        x.save(0, 0, 128 + 1);
        DUE.is("gather(0): OBJECT 1 is not there", x.gather(0), 0);
        DUE.is("get(1, 0, 0)", x.get(1, 0, 0), 129);
        DUE.is("make(0, 1, false): it is again", x.make(0, 1, false), 1);
        DUE.is("gather(0): the FIELD holds the new one", x.gather(0), 0);
    }

    /** "ROOTS 0 to 7, WEAK ones 0 to 3 hold an OBJECT or none." */
    private static void allRootsAndWeakOnes() {
        CellToObject x = new CellToObject();
        for (int o = 0; o < 12; o++) x.make(0, 1, false);
        for (int i = 0; i < 8; i++) DUE.is("hold(false, " + i + ", ..)", x.hold(false, i, i), -1);
        for (int i = 0; i < 4; i++) DUE.is("hold(true, " + i + ", ..)", x.hold(true, i, 8 + i), -1);
        DUE.is("gather(0): WEAK ones keep none", x.gather(0), 4);
        for (int i = 0; i < 8; i++) DUE.is("about(" + i + ", 2)", x.about(i, 2), 1);
        for (int i = 0; i < 4; i++) DUE.is("hold(true, " + i + ", " + i + ")", x.hold(true, i, i), -1);
        DUE.is("gather(0)", x.gather(0), 0);
        for (int i = 0; i < 4; i++) DUE.is("hold(true, " + i + ", -1): it lives", x.hold(true, i, -1), i);
        for (int i = 0; i < 8; i++) DUE.is("hold(false, " + i + ", -1)", x.hold(false, i, -1), i);
        DUE.is("gather(0), none held", x.gather(0), 8);
    }

    /** "if there is no ROOM (or no number) .. It has the lowest number that is free; .. AGE 0." */
    private static void lowestNumber() {
        CellToObject x = new CellToObject();
        for (int o = 0; o < 40; o++) DUE.is("make(1, 1, false)", x.make(1, 1, false), o);
        DUE.is("count(13): a number was free each time", x.count(13), 0);
        x.hold(false, 0, 0);
        x.hold(false, 1, 2);
        x.hold(false, 2, 39);
        DUE.is("the 41st", x.make(1, 1, false), 1);
        DUE.is("about(1, 2)", x.about(1, 2), 0);
        DUE.is("about(1, 0)", x.about(1, 0), 8);
        DUE.is("about(39, 2)", x.about(39, 2), 1);
        DUE.is("the 42nd", x.make(1, 1, false), 3);
        DUE.is("count(13)", x.count(13), 1);
        DUE.is("count(12)", x.count(12), 37);
        DUE.is("count(11)", x.count(11), 5);
    }

    /** "if there is none then, FULL (what the GATHERING did stays)": though some died. */
    private static void fullThoughSomeDied() {
        CellToObject x = filledToTheEnd(0);
        DUE.is("make(0, 16, true)", x.make(0, 16, true), 21);
        DUE.is("make(0, 16, false)", x.make(0, 16, false), 23);
        x.hold(true, 0, 23);
        x.hold(true, 3, 21);
        int gatherings = x.count(13), dead = x.count(12), asked = x.count(0);
        DUE.is("make(1, 24, true)", x.make(1, 24, true), FULL);
        DUE.is("count(13)", x.count(13), gatherings + 1);
        DUE.is("count(12): 23 died", x.count(12), dead + 1);
        DUE.is("about(23, 0)", x.about(23, 0), BAD);
        DUE.is("hold(true, 0, -1)", x.hold(true, 0, -1), -1);
        DUE.is("about(21, 3): its RITE is DONE", x.about(21, 3), 0);
        DUE.is("hold(true, 3, -1)", x.hold(true, 3, -1), 21);
        DUE.is("count(0): 30 of 24 and one of 16 LOADED, none SAVED", x.count(0), asked + 30 * 24 + 16);
        DUE.is("room(0, 0): where 23 was", x.room(0, 0), 64);
        DUE.is("make(1, 24, true) again: 21 dies, no ROOM still", x.make(1, 24, true), FULL);
        DUE.is("count(12) then", x.count(12), dead + 2);
        DUE.is("count(11)", x.count(11), 30);
    }

    // ---- 5 GATHERING

    private static void gatheringOfNone() {
        CellToObject x = new CellToObject();
        for (int kind = 0; kind < 3; kind++) DUE.is("gather(" + kind + ") of none", x.gather(kind), 0);
        DUE.is("count(13)", x.count(13), 3);
        DUE.is("count(14)", x.count(14), 0);
        DUE.is("count(12)", x.count(12), 0);
        x.make(0, 24, false);
        int asked = x.count(0);
        DUE.is("gather(1): the only one dies", x.gather(1), 1);
        DUE.is("count(0): the dead are not LOADED", x.count(0), asked);
        DUE.is("blame(7)", x.blame(7), 0);
        DUE.is("count(15)", x.count(15), 0);
        DUE.is("count(11)", x.count(11), 0);
    }

    /** "kind 2: then all of AGE 2 at least". */
    private static void ageOfTwo() {
        for (int age = 0; age <= 3; age++) {
            for (int kind = 0; kind <= 2; kind++) {
                CellToObject x = new CellToObject();
                x.make(0, 1, false);
                x.hold(false, 0, 0);
                for (int i = 0; i < age; i++) x.gather(i);
                DUE.is("about(0, 2)", x.about(0, 2), age);
                x.hold(false, 0, -1);
                boolean stays = kind == 2 && age >= 2;
                DUE.is("gather(" + kind + ") at AGE " + age, x.gather(kind), stays ? 0 : 1);
                DUE.is("about(0, 2) then", x.about(0, 2), stays ? age + 1 : BAD);
            }
        }
    }

    /** "FIELD by FIELD (each is LOADED; LOST: nothing)". */
    private static void lostFields() {
        CellToObject x = new CellToObject();
        x.make(0, 3, false);
        x.make(0, 1, false);
        x.make(0, 1, false);
        x.put(0, 0, 0, 128 + 1);
        x.put(0, 0, 2, 128 + 2);
        x.hold(false, 0, 0);
        x.lines(1, 1);
        x.flip(0, 1);
        x.flip(0, 2);
        DUE.is("gather(0): what is behind it is LOADED still", x.gather(0), 1);
        DUE.is("about(1, 0)", x.about(1, 0), BAD);
        DUE.is("about(2, 2)", x.about(2, 2), 1);
        DUE.is("count(9)", x.count(9), 0);
        DUE.is("get(0, 0, 0)", x.get(0, 0, 0), LOST);
        DUE.is("count(9): get() tells it", x.count(9), 1);
    }

    /** "it is DONE (none from then on), and they are put behind". */
    private static void ritesOnceAlone() {
        for (int kind = 0; kind <= 2; kind++) {
            CellToObject x = new CellToObject();
            x.make(0, 1, true);
            x.make(0, 1, true);
            x.put(0, 1, 0, 128 + 1);
            x.hold(true, 2, 1);
            DUE.is("gather(" + kind + "): two RITES, none dies", x.gather(kind), 0);
            DUE.is("count(10)", x.count(10), 2);
            DUE.is("about(0, 3)", x.about(0, 3), 0);
            DUE.is("about(1, 3)", x.about(1, 3), 0);
            DUE.is("about(1, 2)", x.about(1, 2), 1);
            DUE.is("a WEAK one holds it still", x.hold(true, 2, 1), 1);
            DUE.is("gather(" + kind + ") then", x.gather(kind), 2);
            DUE.is("count(10) then", x.count(10), 2);
            DUE.is("the WEAK one holds none", x.hold(true, 2, -1), -1);
        }
        CellToObject x = new CellToObject();
        x.make(0, 1, true);
        x.hold(false, 5, 0);
        x.gather(0);
        DUE.is("held: its RITE is to come", x.about(0, 3), 1);
        x.gather(0);
        x.hold(false, 5, -1);
        DUE.is("gather(2): of AGE 2, in the row", x.gather(2), 0);
        DUE.is("its RITE is to come still", x.about(0, 3), 1);
        DUE.is("gather(0)", x.gather(0), 0);
        DUE.is("DONE", x.about(0, 3), 0);
        DUE.is("count(10) of it", x.count(10), 1);
    }

    /** "MOVED to the lowest ADDRESS behind the one ahead (0, the first) .. OBJECTS at their place are not touched". */
    private static void movedToTheFirstAddress() {
        for (int kind = 1; kind <= 2; kind++) {
            CellToObject x = new CellToObject();
            for (int n : new int[] {1, 7, 9, 8}) x.make(0, n, false);
            for (int i = 0; i < 3; i++) x.hold(false, i, i + 1);
            x.put(0, 1, 6, 61);
            x.put(0, 2, 8, 82);
            x.put(0, 3, 0, 30);
            DUE.is("gather(" + kind + ")", x.gather(kind), 1);
            int[] due = {0, 8, 24};
            for (int i = 0; i < 3; i++) DUE.is("about(" + (i + 1) + ", 0)", x.about(i + 1, 0), due[i]);
            DUE.is("count(15)", x.count(15), 7 + 9 + 8);
            DUE.is("get(0, 1, 6)", x.get(0, 1, 6), 61);
            DUE.is("get(0, 2, 8)", x.get(0, 2, 8), 82);
            DUE.is("get(0, 3, 0)", x.get(0, 3, 0), 30);
            int asked = x.count(0);
            x.gather(kind);
            DUE.is("all at their place: FIELDS are LOADED once", x.count(0), asked + 7 + 9 + 8);
            DUE.is("count(15) then", x.count(15), 7 + 9 + 8);
            DUE.is("room(0, 0)", x.room(0, 0), 32);
        }
        CellToObject x = new CellToObject();
        x.make(0, 1, false);
        x.make(0, 1, false);
        x.hold(false, 0, 1);
        x.gather(0);
        DUE.is("kind 0 moves none", x.about(1, 0), 8);
        DUE.is("make(0, 1, false): below it", x.make(0, 1, false), 0);
        x.hold(false, 1, 0);
        DUE.is("by ADDRESSES, not by ROOTS: none is MOVED", x.gather(1), 0);
        DUE.is("about(1, 0)", x.about(1, 0), 8);
        DUE.is("count(15)", x.count(15), 0);
    }

    /** "5 GATHERING, by PROCESSOR 0": what is MOVED too. */
    private static void movedByProcessor0() {
        CellToObject x = new CellToObject();
        for (int n : new int[] {8, 8, 16}) x.make(1, n, false);
        x.hold(false, 0, 1);
        x.hold(false, 1, 2);
        x.lines(1, 4);
        DUE.is("gather(1)", x.gather(1), 1);
        for (int b = 0; b < 4; b++) DUE.is("line(1, " + b + ")", x.line(1, b), 0);
        for (int b = 0; b < 3; b++) DUE.is("line(0, " + b + "): SAVED", x.line(0, b), 2);
        DUE.is("line(0, 3): LOADED", x.line(0, 3), 1);
    }

    /** "byte by byte LOADED and SAVED": where it comes to lie meets where it lay. */
    private static void movedByLessThanItsLength() {
        CellToObject x = new CellToObject();
        x.make(0, 8, false);
        x.make(0, 24, false);
        x.hold(false, 0, 1);
        for (int f = 0; f < 24; f++) x.put(0, 1, f, 100 + f);
        DUE.is("gather(1)", x.gather(1), 1);
        for (int f = 0; f < 24; f++) DUE.is("get(1, 1, " + f + ")", x.get(1, 1, f), 100 + f);
        DUE.is("load(0, 24): what lay there before stays", x.load(0, 24), 116);
        DUE.is("load(0, 31)", x.load(0, 31), 123);
    }

    /** "(a LOST one: not SAVED ..)": what lay at the new place stays, and may be read as a FIELD from then on. */
    private static void lostAcrossAMove() {
        CellToObject x = new CellToObject();
        x.make(0, 2, false);
        x.make(0, 2, false);
        x.make(0, 1, false);
        x.put(0, 0, 1, 128 + 2);
        x.put(0, 1, 0, 7);
        x.put(0, 1, 1, 128 + 0);
        x.hold(false, 0, 1);
        x.lines(1, 1);
        x.flip(9, 0);
        x.flip(9, 4);
        DUE.is("gather(1): 0 and 2 die", x.gather(1), 2);
        DUE.is("count(15)", x.count(15), 1);
        DUE.is("get(0, 1, 0)", x.get(0, 1, 0), 7);
        DUE.is("get(0, 1, 1): what was 0's", x.get(0, 1, 1), 130);
        DUE.is("count(9)", x.count(9), 0);
    }

    // ---- 6 BLAME

    /** "Ticks of an OBJECT: those of get() and put() of it." */
    private static void ticksOfAnObject() {
        CellToObject x = new CellToObject();
        x.make(0, 1, false);
        x.make(0, 1, false);
        int spent = x.put(1, 1, 0, 128);
        DUE.is("about(1, 4)", x.about(1, 4), spent);
        DUE.is("about(0, 4): of the other none", x.about(0, 4), 0);
        DUE.is("put(0, 1, 0, 168): BAD", x.put(0, 1, 0, 168), BAD);
        DUE.is("about(1, 4) after BAD", x.about(1, 4), spent);
        x.lines(1, 1);
        x.flip(8, 3);
        x.flip(8, 5);
        int before = x.count(14);
        DUE.is("get(0, 1, 0)", x.get(0, 1, 0), LOST);
        DUE.is("about(1, 4): a LOST one's too", x.about(1, 4), spent + x.count(14) - before);
    }

    /** "7 GATHERING (all ticks in one)": of ROWS, PAGES and MISSES too. */
    private static void allTicksOfAGathering() {
        CellToObject x = new CellToObject();
        x.frames(1);
        x.lines(1, 1);
        for (int i = 0; i < 3; i++) x.make(0, 24, i == 1);
        x.hold(false, 0, 2);
        x.load(1, 1023);
        for (int kind = 0; kind <= 2; kind++) {
            long[] before = new long[8];
            for (int c = 0; c < 8; c++) before[c] = x.blame(c);
            int ticks = x.count(14), faults = x.count(6), misses = x.count(1);
            x.gather(kind);
            for (int c = 0; c < 7; c++) DUE.is("blame(" + c + ") by gather(" + kind + ")", x.blame(c), before[c]);
            DUE.is("blame(7) by gather(" + kind + ")", x.blame(7) - before[7], x.count(14) - ticks);
            if (kind > 0) continue;
            DUE.holds("FAULTS are counted in it", x.count(6) > faults);
            DUE.holds("MISSES too", x.count(1) > misses);
        }
        DUE.is("count(13)", x.count(13), 3);
        long sum = 0;
        for (int c = 0; c < 8; c++) sum += x.blame(c);
        DUE.is("all ticks", x.count(14), sum);
    }

    /** "128 + an OBJECT": it may be the same one. */
    private static void putOfItself() {
        CellToObject x = new CellToObject();
        x.make(0, 1, false);
        DUE.is("put(0, 0, 0, 128)", x.put(0, 0, 0, 128), 1);
        DUE.is("put(0, 0, 0, 127)", x.put(0, 0, 0, 127), 1);
        DUE.is("put(0, 0, 0, 0)", x.put(0, 0, 0, 0), 1);
        x.put(0, 0, 0, 128);
        DUE.is("gather(0): it does not hold itself alive", x.gather(0), 1);
    }
}
