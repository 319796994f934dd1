/** Promises 16 to 22: objects, what holds them, and the three ways of gathering. */
public final class ObjectsTest {
    private static final Due DUE = new Due("ObjectsTest");
    private static final int BAD = -1, NO = -2, FULL = -3, NONE = -4, LOST = -5;
    private static final int[] FAR = {Integer.MIN_VALUE, -1, Integer.MAX_VALUE};

    public static void main(String[] args) {
        make();
        makeWhereItFits();
        makeGathers();
        makeIsFull();
        makeFindsNoRoom();
        get();
        put();
        hold();
        gatherByMarking();
        gatherRow();
        gatherRites();
        gatherClosingUp();
        gatherTheYoung();
        gatherMovesNoLostByte();
        about();
        room();
        DUE.finish();
    }

    /** OBJECTS 0 to n - 1 of 8 FIELDS each, at ADDRESSES 0, 8, 16 and so on. */
    private static CellToObject eights(int n) {
        CellToObject x = new CellToObject();
        x.frames(16);
        for (int i = 0; i < n; i++) x.make(0, 8, false);
        return x;
    }

    private static void drop(CellToObject x, int... numbers) {
        for (int i = 0; i < 8; i++) x.hold(false, i, -1);
        int root = 0;
        for (int o = 0; o < 8; o++) {
            boolean goes = false;
            for (int n : numbers) goes |= n == o;
            if (!goes && x.about(o, 0) != BAD) x.hold(false, root++, o);
        }
        x.gather(0);
    }

    private static void make() {
        CellToObject x = new CellToObject();
        x.save(0, 0, 77);
        x.save(0, 23, 78);
        x.save(0, 24, 79);
        DUE.is("make(1, 24, true)", x.make(1, 24, true), 0);
        DUE.is("load(0, 0): SAVED as 0", x.load(0, 0), 0);
        DUE.is("load(0, 23)", x.load(0, 23), 0);
        DUE.is("load(0, 24)", x.load(0, 24), 79);
        DUE.is("make(0, 1, false)", x.make(0, 1, false), 1);
        DUE.is("load(0, 24) then", x.load(0, 24), 0);
        DUE.is("about(1, 0)", x.about(1, 0), 24);
        DUE.is("about(1, 1)", x.about(1, 1), 1);
        DUE.is("make(0, 2, false)", x.make(0, 2, false), 2);
        DUE.is("about(2, 0): eights", x.about(2, 0), 32);
        DUE.is("make(0, 0, true)", x.make(0, 0, true), BAD);
        DUE.is("make(0, 25, true)", x.make(0, 25, true), BAD);
        DUE.is("make(2, 1, true)", x.make(2, 1, true), BAD);
        for (int v : FAR) {
            DUE.is("make(" + v + ", 1, true)", x.make(v, 1, true), BAD);
            DUE.is("make(0, " + v + ", true)", x.make(0, v, true), BAD);
        }
        DUE.is("count(11)", x.count(11), 3);
        int asked = x.count(0);
        x.make(0, 5, false);
        DUE.is("FIELDS alone are SAVED", x.count(0), asked + 5);
        DUE.is("by PROCESSOR 0", x.line(0, 5), 2);
        x.make(1, 5, false);
        DUE.is("by PROCESSOR 1", x.line(1, 6), 2);
    }

    private static void makeWhereItFits() {
        for (int fit = 0; fit < 2; fit++) {
            CellToObject x = new CellToObject();
            x.frames(16);
            x.rule(3, fit);
            for (int n : new int[] {24, 8, 16, 8, 16, 8, 8}) x.make(0, n, false);
            drop(x, 0, 2, 4);
            DUE.is("room(0, 1)", x.room(0, 1), 24);
            DUE.is("room(1, 1)", x.room(1, 1), 16);
            DUE.is("FIT " + fit + ": 9 FIELDS", x.make(0, 9, false), 0);
            DUE.is("FIT " + fit + ": where", x.about(0, 0), fit == 0 ? 0 : 32);
            DUE.is("FIT " + fit + ": 9 more", x.make(0, 16, false), 2);
            DUE.is("FIT " + fit + ": where then", x.about(2, 0), fit == 0 ? 32 : 56);
            DUE.is("FIT " + fit + ": 8 more", x.make(0, 8, false), 4);
            DUE.is("FIT " + fit + ": where at last", x.about(4, 0), fit == 0 ? 16 : 0);
        }
    }

    private static void makeGathers() {
        CellToObject x = new CellToObject();
        x.frames(16);
        for (int i = 0; i < 40; i++) DUE.is("make " + i, x.make(0, 1, false), i);
        x.hold(false, 0, 3);
        x.hold(false, 1, 7);
        DUE.is("no number: a GATHERING first", x.make(1, 1, false), 0);
        DUE.is("count(13)", x.count(13), 1);
        DUE.is("count(12)", x.count(12), 38);
        DUE.is("about(0, 2): AGE 0", x.about(0, 2), 0);
        DUE.is("about(3, 2)", x.about(3, 2), 1);
        DUE.is("about(0, 0)", x.about(0, 0), 0);
        DUE.is("about(7, 0): kind 0 moves none", x.about(7, 0), 56);
        DUE.is("make(0, 1, false)", x.make(0, 1, false), 1);
        DUE.is("count(13) then", x.count(13), 1);
    }

    /** 40 OBJECTS that hold one another in a row, so that none dies. */
    private static CellToObject chained() {
        CellToObject x = new CellToObject();
        x.frames(16);
        for (int i = 0; i < 40; i++) {
            x.make(0, 24, false);
            if (i > 0) x.put(0, i - 1, 0, 128 + i);
        }
        x.hold(false, 0, 0);
        return x;
    }

    private static void makeIsFull() {
        CellToObject x = chained();
        DUE.is("room(0, 1)", x.room(0, 1), 64);
        DUE.is("FULL: no number", x.make(0, 1, false), FULL);
        DUE.is("count(13): what the GATHERING did stays", x.count(13), 1);
        DUE.is("about(39, 2)", x.about(39, 2), 1);
        DUE.is("count(11)", x.count(11), 40);
        x.put(0, 38, 0, 0);
        DUE.is("one died", x.make(0, 24, false), 39);
        DUE.is("about(39, 0)", x.about(39, 0), 936);
    }

    /** OBJECTS of 24 with ROOMS of 16 between them, held by 0 and 2: no ROOM is great enough for one more. */
    private static void makeFindsNoRoom() {
        CellToObject x = new CellToObject();
        x.frames(16);
        for (int i = 0; i < 40; i++) x.make(0, i % 2 == 0 ? 24 : 16, false);
        x.hold(false, 0, 0);
        x.hold(false, 1, 2);
        for (int i = 0; i < 20; i++) x.put(0, 0, i, 128 + 2 * i);
        DUE.is("gather(0)", x.gather(0), 20);
        DUE.is("room(19, 1): the last joins what is behind", x.room(19, 1), 240);
        DUE.is("room(20, 0)", x.room(20, 0), NONE);
        for (int i = 0; i < 10; i++) {
            DUE.is("make(0, 24, false)", x.make(0, 24, false), 2 * i + 1);
            x.put(0, 2, i, 128 + 2 * i + 1);
        }
        DUE.is("room(18, 1)", x.room(18, 1), 16);
        DUE.is("room(19, 0)", x.room(19, 0), NONE);
        DUE.is("FULL: no ROOM", x.make(0, 17, false), FULL);
        DUE.is("count(13)", x.count(13), 2);
        DUE.is("count(11)", x.count(11), 30);
        DUE.is("about(1, 2): what the GATHERING did stays", x.about(1, 2), 1);
        DUE.is("make(0, 16, false): there is ROOM for this", x.make(0, 16, false), 21);
        DUE.is("about(21, 0)", x.about(21, 0), 24);
        DUE.is("count(13) then", x.count(13), 2);
        x.put(0, 2, 4, 0);
        DUE.is("two died, and there is ROOM", x.make(0, 17, false), 9);
        DUE.is("about(9, 0)", x.about(9, 0), 880);
        DUE.is("count(12)", x.count(12), 22);
    }

    private static void get() {
        CellToObject x = new CellToObject();
        x.make(0, 3, false);
        x.make(0, 3, false);
        x.put(1, 0, 2, 129);
        DUE.is("get(0, 0, 2)", x.get(0, 0, 2), 129);
        DUE.is("load(0, 2)", x.load(0, 2), 129);
        x.hold(false, 0, 0);
        x.put(0, 0, 2, 0);
        x.gather(0);
        x.save(0, 2, 129);
        DUE.is("get(1, 0, 2): OBJECT 1 is not there", x.get(1, 0, 2), 129);
        x.save(0, 1, 255);
        DUE.is("get(1, 0, 1)", x.get(1, 0, 1), 255);
        DUE.is("get(1, 0, 3)", x.get(1, 0, 3), BAD);
        DUE.is("get(1, 1, 0)", x.get(1, 1, 0), BAD);
        DUE.is("get(2, 0, 0)", x.get(2, 0, 0), BAD);
        DUE.is("get(0, 40, 0)", x.get(0, 40, 0), BAD);
        for (int v : FAR) {
            DUE.is("get(" + v + ", 0, 0)", x.get(v, 0, 0), BAD);
            DUE.is("get(0, " + v + ", 0)", x.get(0, v, 0), BAD);
            DUE.is("get(0, 0, " + v + ")", x.get(0, 0, v), BAD);
        }
        x.lines(2, 2);
        x.flip(2, 3);
        x.flip(2, 5);
        DUE.is("get(0, 0, 2), two turned", x.get(0, 0, 2), LOST);
        DUE.is("count(9)", x.count(9), 1);
    }

    private static void put() {
        CellToObject x = new CellToObject();
        x.make(0, 3, false);
        DUE.is("put(0, 0, 0, 127)", x.put(0, 0, 0, 127), 1);
        DUE.is("put(1, 0, 0, 128): MISS, 2 STORED, 2 brought", x.put(1, 0, 0, 128), 5);
        DUE.is("put(0, 0, 0, 129)", x.put(0, 0, 0, 129), NO);
        DUE.is("put(0, 0, 0, 167)", x.put(0, 0, 0, 167), NO);
        DUE.is("put(0, 0, 0, 168)", x.put(0, 0, 0, 168), BAD);
        DUE.is("put(0, 0, 0, 256)", x.put(0, 0, 0, 256), BAD);
        DUE.is("put(0, 0, 3, 129): BAD before NO", x.put(0, 0, 3, 129), BAD);
        DUE.is("put(0, 1, 0, 0)", x.put(0, 1, 0, 0), BAD);
        DUE.is("put(2, 0, 0, 0)", x.put(2, 0, 0, 0), BAD);
        for (int v : FAR) {
            DUE.is("put(" + v + ", 0, 0, 0)", x.put(v, 0, 0, 0), BAD);
            DUE.is("put(0, " + v + ", 0, 0)", x.put(0, v, 0, 0), BAD);
            DUE.is("put(0, 0, " + v + ", 0)", x.put(0, 0, v, 0), BAD);
            DUE.is("put(0, 0, 0, " + v + ")", x.put(0, 0, 0, v), BAD);
        }
        DUE.is("get(1, 0, 0)", x.get(1, 0, 0), 128);
    }

    private static void hold() {
        CellToObject x = eights(2);
        DUE.is("hold(false, 7, 1)", x.hold(false, 7, 1), -1);
        DUE.is("hold(false, 7, 0)", x.hold(false, 7, 0), 1);
        DUE.is("hold(true, 3, 1)", x.hold(true, 3, 1), -1);
        DUE.is("hold(true, 3, 0)", x.hold(true, 3, 0), 1);
        DUE.is("hold(false, 8, 0)", x.hold(false, 8, 0), -100);
        DUE.is("hold(true, 4, 0)", x.hold(true, 4, 0), -100);
        DUE.is("hold(false, 7, 2): none is there", x.hold(false, 7, 2), -100);
        DUE.is("hold(true, 3, 40)", x.hold(true, 3, 40), -100);
        DUE.is("hold(true, 3, -2)", x.hold(true, 3, -2), -100);
        for (int v : FAR) DUE.is("hold(false, " + v + ", 0)", x.hold(false, v, 0), -100);
        DUE.is("hold(false, 0, far)", x.hold(false, 0, Integer.MAX_VALUE), -100);
        DUE.is("hold(true, 3, -1)", x.hold(true, 3, -1), 0);
        DUE.is("hold(false, 7, -1)", x.hold(false, 7, -1), 0);
        DUE.is("hold(false, 7, -1) again", x.hold(false, 7, -1), -1);
    }

    private static void gatherByMarking() {
        CellToObject x = eights(6);
        x.hold(false, 3, 2);
        x.put(0, 2, 7, 128 + 4);
        x.put(0, 4, 0, 128 + 2);
        x.put(0, 4, 1, 128 + 5);
        x.put(0, 0, 0, 128 + 1);
        x.put(0, 1, 0, 128 + 0);
        x.hold(true, 0, 1);
        x.hold(true, 1, 5);
        x.hold(true, 2, 1);
        DUE.is("gather(0): 0 and 1 hold one another, 3", x.gather(0), 3);
        DUE.is("about(0, 0)", x.about(0, 0), BAD);
        DUE.is("about(5, 0)", x.about(5, 0), 40);
        DUE.is("about(5, 2)", x.about(5, 2), 1);
        DUE.is("hold(true, 0, -1)", x.hold(true, 0, -1), -1);
        DUE.is("hold(true, 1, -1)", x.hold(true, 1, -1), 5);
        DUE.is("hold(true, 2, -1)", x.hold(true, 2, -1), -1);
        DUE.is("room(0, 1)", x.room(0, 1), 16);
        DUE.is("room(1, 0)", x.room(1, 0), 24);
        DUE.is("count(11)", x.count(11), 3);
        DUE.is("count(12)", x.count(12), 3);
        x.save(0, 33, 128 + 20);
        x.save(0, 34, 255);
        DUE.is("gather(0): 148 and 255 hold nothing", x.gather(0), 1);
        x.hold(false, 3, -1);
        DUE.is("gather(0), no ROOT", x.gather(0), 2);
        DUE.is("room(0, 1)", x.room(0, 1), 1024);
        DUE.is("gather(0) of none", x.gather(0), 0);
        DUE.is("gather(3)", x.gather(3), BAD);
        for (int v : FAR) DUE.is("gather(" + v + ")", x.gather(v), BAD);
        DUE.is("count(13)", x.count(13), 4);
    }

    /** OBJECTS 0, 2, 4, 6, 8 in PAGES 0 to 4: the FRAMES that these get as they fault tell the order. */
    private static CellToObject paged() {
        CellToObject x = new CellToObject();
        for (int i = 0; i < 5; i++) {
            x.make(0, 24, false);
            x.make(0, 8, false);
        }
        return x;
    }

    private static void sendAllAway(CellToObject x) {
        x.frames(1);
        x.load(0, 1023);
        x.frames(16);
    }

    private static void gatherRow() {
        CellToObject x = paged();
        x.put(0, 6, 0, 128 + 2);
        x.put(0, 6, 1, 128 + 0);
        x.put(0, 2, 0, 128 + 8);
        x.put(0, 0, 0, 128 + 6);
        x.hold(false, 0, 6);
        x.hold(false, 1, 4);
        x.hold(false, 2, 6);
        sendAllAway(x);
        int faults = x.count(6), asked = x.count(0);
        DUE.is("gather(0)", x.gather(0), 5);
        DUE.is("count(6)", x.count(6), faults + 5);
        DUE.is("count(0): FIELDS of five, each once", x.count(0), asked + 120);
        int[] order = {3, 2, 1, 0, 4};
        for (int i = 0; i < 5; i++) DUE.is("page(" + order[i] + ", 0)", x.page(order[i], 0), i + 1);

        x = paged();
        x.hold(false, 0, 4);
        x.hold(false, 1, 2);
        x.hold(false, 2, 8);
        x.put(0, 8, 3, 128 + 0);
        x.gather(0);
        x.gather(0);
        x.hold(false, 1, -1);
        x.hold(false, 0, 8);
        x.hold(false, 2, -1);
        x.make(0, 8, true);
        sendAllAway(x);
        DUE.is("gather(2)", x.gather(2), 0);
        int[] old = {4, 0, 1, 2};
        for (int i = 0; i < 4; i++) DUE.is("of AGE 2: page(" + old[i] + ", 0)", x.page(old[i], 0), i + 1);
        DUE.is("count(10)", x.count(10), 1);

        x = eights(3);
        x.hold(false, 0, 0);
        x.put(0, 0, 0, 128 + 1);
        x.lines(2, 2);
        x.flip(0, 3);
        x.flip(0, 5);
        DUE.is("gather(0): a LOST FIELD holds nothing", x.gather(0), 2);
        DUE.is("count(9): not told", x.count(9), 0);
    }

    private static void gatherRites() {
        CellToObject x = new CellToObject();
        x.make(0, 1, false);
        x.make(0, 2, true);
        x.make(0, 1, true);
        x.make(0, 1, false);
        x.make(0, 1, true);
        x.put(0, 1, 0, 128 + 2);
        x.put(0, 2, 0, 128 + 3);
        x.hold(false, 0, 4);
        x.hold(true, 0, 3);
        DUE.is("gather(0): 0 dies", x.gather(0), 1);
        DUE.is("about(1, 3): DONE", x.about(1, 3), 0);
        DUE.is("about(2, 3): put behind by 1 before its turn", x.about(2, 3), 1);
        DUE.is("about(3, 0): held by what 1 holds", x.about(3, 0), 24);
        DUE.is("about(4, 3): in the row by a ROOT", x.about(4, 3), 1);
        DUE.is("count(10)", x.count(10), 1);
        DUE.is("hold(true, 0, 3): not dead", x.hold(true, 0, 3), 3);
        DUE.is("gather(1): then 1 dies, 2 has its RITE", x.gather(1), 1);
        DUE.is("about(2, 3)", x.about(2, 3), 0);
        DUE.is("about(2, 0): it is MOVED too", x.about(2, 0), 0);
        DUE.is("count(10) then", x.count(10), 2);
        DUE.is("gather(0): 2 and 3", x.gather(0), 2);
        DUE.is("hold(true, 0, -1)", x.hold(true, 0, -1), -1);
        DUE.is("make(0, 1, true): a new OBJECT, a new RITE", x.make(0, 1, true), 0);
        DUE.is("about(0, 3)", x.about(0, 3), 1);
    }

    private static void gatherClosingUp() {
        CellToObject x = new CellToObject();
        for (int n : new int[] {3, 9, 5, 24, 2}) x.make(1, n, false);
        for (int f = 0; f < 5; f++) x.put(1, 2, f, 10 + f);
        for (int f = 0; f < 24; f++) x.put(0, 3, f, 50 + f);
        x.put(0, 0, 2, 7);
        x.hold(false, 0, 3);
        x.hold(false, 1, 2);
        x.hold(false, 2, 0);
        int asked = x.count(0);
        DUE.is("gather(1)", x.gather(1), 2);
        DUE.is("about(0, 0): at its place", x.about(0, 0), 0);
        DUE.is("about(2, 0)", x.about(2, 0), 8);
        DUE.is("about(3, 0)", x.about(3, 0), 16);
        DUE.is("count(15)", x.count(15), 29);
        DUE.is("LOADED for the row, LOADED and SAVED", x.count(0), asked + 3 + 5 + 24 + 2 * 29);
        DUE.is("by PROCESSOR 0", x.line(0, 4), 2);
        for (int f = 0; f < 5; f++) DUE.is("get(0, 2, " + f + ")", x.get(0, 2, f), 10 + f);
        for (int f = 0; f < 24; f++) DUE.is("get(1, 3, " + f + ")", x.get(1, 3, f), 50 + f);
        DUE.is("get(1, 0, 2)", x.get(1, 0, 2), 7);
        DUE.is("load(0, 13): bytes that no FIELD has are not MOVED", x.load(0, 13), 0);
        DUE.is("room(0, 0)", x.room(0, 0), 40);
        DUE.is("room(1, 0)", x.room(1, 0), NONE);
        DUE.is("gather(1): none to move", x.gather(1), 0);
        DUE.is("count(15) then", x.count(15), 29);
        DUE.is("hold(false, 0, -1)", x.hold(false, 0, -1), 3);
    }

    private static void gatherTheYoung() {
        CellToObject x = eights(3);
        x.hold(false, 0, 1);
        x.hold(false, 1, 2);
        x.gather(0);
        x.put(0, 2, 0, 128 + 1);
        x.gather(2);
        DUE.is("about(2, 2)", x.about(2, 2), 2);
        DUE.is("about(1, 0): kind 2 closes up", x.about(1, 0), 0);
        x.make(0, 8, false);
        x.make(0, 8, false);
        x.put(0, 2, 1, 128 + 3);
        x.hold(false, 0, -1);
        x.hold(false, 1, -1);
        DUE.is("gather(2): the old stay, and what they hold", x.gather(2), 1);
        DUE.is("about(3, 0)", x.about(3, 0), 16);
        DUE.is("about(3, 2)", x.about(3, 2), 1);
        DUE.is("about(0, 0)", x.about(0, 0), BAD);
        x.put(0, 2, 1, 0);
        DUE.is("gather(2): AGE 1 is young", x.gather(2), 1);
        DUE.is("about(1, 2)", x.about(1, 2), 4);
        DUE.is("gather(1): all", x.gather(1), 2);
    }

    private static void gatherMovesNoLostByte() {
        CellToObject x = eights(2);
        x.put(0, 0, 3, 99);
        for (int f = 0; f < 8; f++) x.put(0, 1, f, 20 + f);
        x.hold(false, 0, 1);
        x.lines(2, 2);
        x.flip(8 + 3, 0);
        x.flip(8 + 3, 12);
        DUE.is("gather(1)", x.gather(1), 1);
        DUE.is("count(15)", x.count(15), 7);
        DUE.is("get(0, 1, 2)", x.get(0, 1, 2), 22);
        DUE.is("get(0, 1, 3): what lay there", x.get(0, 1, 3), 99);
        DUE.is("get(0, 1, 4)", x.get(0, 1, 4), 24);
        DUE.is("count(9): not told", x.count(9), 0);
    }

    private static void about() {
        CellToObject x = new CellToObject();
        x.make(1, 17, true);
        DUE.is("about(0, 0)", x.about(0, 0), 0);
        DUE.is("about(0, 1)", x.about(0, 1), 17);
        DUE.is("about(0, 2)", x.about(0, 2), 0);
        DUE.is("about(0, 3)", x.about(0, 3), 1);
        DUE.is("about(0, 4): not of make()", x.about(0, 4), 0);
        int spent = x.put(0, 0, 16, 3);
        DUE.is("about(0, 4) by put()", x.about(0, 4), spent);
        x.get(1, 0, 16);
        DUE.is("about(0, 4) by get()", x.about(0, 4), spent + 5);
        x.load(0, 0);
        x.save(0, 0, 0);
        x.hold(false, 0, 0);
        x.gather(0);
        DUE.is("about(0, 4): by no other", x.about(0, 4), spent + 5);
        DUE.is("about(0, 5)", x.about(0, 5), BAD);
        DUE.is("about(1, 0)", x.about(1, 0), BAD);
        DUE.is("about(40, 0)", x.about(40, 0), BAD);
        for (int v : FAR) {
            DUE.is("about(" + v + ", 0)", x.about(v, 0), BAD);
            DUE.is("about(0, " + v + ")", x.about(0, v), BAD);
        }
        x.hold(false, 0, -1);
        x.gather(0);
        x.gather(0);
        x.make(0, 1, false);
        DUE.is("about(0, 4) of a new one", x.about(0, 4), 0);
        DUE.is("about(0, 2) of a new one", x.about(0, 2), 0);
        DUE.is("about(0, 3) of a new one", x.about(0, 3), 0);
    }

    private static void room() {
        CellToObject x = eights(6);
        drop(x, 1, 3, 4);
        DUE.is("room(0, 0)", x.room(0, 0), 8);
        DUE.is("room(0, 1)", x.room(0, 1), 8);
        DUE.is("room(1, 0): joined", x.room(1, 0), 24);
        DUE.is("room(1, 1)", x.room(1, 1), 16);
        DUE.is("room(2, 0)", x.room(2, 0), 48);
        DUE.is("room(2, 1)", x.room(2, 1), 1024 - 48);
        DUE.is("room(3, 0)", x.room(3, 0), NONE);
        DUE.is("room(3, 1)", x.room(3, 1), NONE);
        DUE.is("room(far, 0)", x.room(Integer.MAX_VALUE, 0), NONE);
        DUE.is("room(far, 2): BAD first", x.room(Integer.MAX_VALUE, 2), BAD);
        DUE.is("room(-1, 0)", x.room(-1, 0), BAD);
        DUE.is("room(far below, 1)", x.room(Integer.MIN_VALUE, 1), BAD);
        for (int v : FAR) DUE.is("room(0, " + v + ")", x.room(0, v), BAD);
        DUE.is("room(0, 2)", x.room(0, 2), BAD);
        drop(x, 0, 1, 2, 3, 4);
        DUE.is("room(0, 1): joined on both sides", x.room(0, 1), 40);
    }
}
