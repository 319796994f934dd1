import java.util.ArrayList;
import java.util.List;

/**
 * "BAD: a number is none that is told, there is no such thing. NO: not as things stand. FULL. Of several the first;
 * nothing changes then." Each refused call is made on an object that has lived a while; then whatever can be seen of
 * it, and what goes on in it, is held against a twin that was spared the call.
 */
public final class RefusedTest {
    private static final Due DUE = new Due("RefusedTest");
    private static final int BAD = -1, NO = -2, FULL = -3, BAD_HOLD = -100;
    private static final int LOW = Integer.MIN_VALUE, HIGH = Integer.MAX_VALUE;
    /** OBJECT 3 died in lived(), OBJECT 39 was never made. */
    private static final int[] NO_OBJECTS = {LOW, -1, 3, 39, 40, HIGH};
    private static final int VIEWS = 4;

    private interface Call {
        long on(CellToObject x);
    }

    private record Refused(String name, long due, Call call) {
    }

    private static final List<Refused> ALL = new ArrayList<>();

    public static void main(String[] args) {
        cells();
        lines();
        pages();
        objects();
        blame();
        nothingChanges();
        badComesFirst();
        fullLeavesWhatTheGatheringDid();
        DUE.finish();
    }

    private static void refuse(String name, long due, Call call) {
        ALL.add(new Refused(name, due, call));
    }

    /** All numbers just beside low to high, and the farthest ones. */
    private static int[] beside(int low, int high) {
        return new int[] {LOW, low - 1, high + 1, HIGH};
    }

    private static void cells() {
        for (int v : beside(0, 60)) refuse("limit(" + v + ")", BAD, x -> x.limit(v));
        for (int v : beside(0, 511)) {
            refuse("flip(" + v + ", 5)", BAD, x -> x.flip(v, 5));
            refuse("cell(" + v + ", 1)", BAD, x -> x.cell(v, 1));
        }
        for (int v : beside(0, 12)) refuse("flip(1, " + v + ")", BAD, x -> x.flip(1, v));
        for (int v : beside(0, 3)) {
            refuse("refresh(" + v + ", 1)", BAD, x -> x.refresh(v, 1));
            refuse("open(" + v + ")", BAD, x -> x.open(v));
        }
        for (int v : beside(0, 15)) refuse("refresh(0, " + v + ")", BAD, x -> x.refresh(0, v));
        for (int v : beside(0, 1)) refuse("cell(1, " + v + ")", BAD, x -> x.cell(1, v));
        for (int v : beside(0, 13)) refuse("patterns(" + v + ", 0)", BAD, x -> x.patterns(v, 0));
        for (int v : beside(0, 2)) refuse("patterns(2, " + v + ")", BAD, x -> x.patterns(2, v));
    }

    private static void lines() {
        for (int v : new int[] {LOW, -4, -2, -1, 0, 3, 5, 6, 8, 16, HIGH}) {
            refuse("lines(" + v + ", 2)", BAD, x -> x.lines(v, 2));
        }
        for (int v : beside(1, 4)) refuse("lines(2, " + v + ")", BAD, x -> x.lines(2, v));
        for (int v : beside(0, 3)) refuse("rule(" + v + ", 0)", BAD, x -> x.rule(v, 0));
        for (int what = 0; what < 4; what++) {
            int w = what;
            for (int v : beside(0, w % 2 == 0 ? 2 : 1)) refuse("rule(" + w + ", " + v + ")", BAD, x -> x.rule(w, v));
        }
        for (int v : beside(0, 1)) refuse("line(" + v + ", 1)", BAD, x -> x.line(v, 1));
        for (int v : beside(0, 63)) refuse("line(1, " + v + ")", BAD, x -> x.line(1, v));
    }

    private static void pages() {
        for (int v : beside(1, 16)) {
            refuse("frames(" + v + ")", BAD, x -> x.frames(v));
            refuse("fewest(" + v + ")", BAD, x -> x.fewest(v));
        }
        for (int v : beside(0, 31)) refuse("page(" + v + ", 0)", BAD, x -> x.page(v, 0));
        for (int v : beside(0, 1)) {
            refuse("page(1, " + v + ")", BAD, x -> x.page(1, v));
            refuse("load(" + v + ", 900)", BAD, x -> x.load(v, 900));
            refuse("save(" + v + ", 900, 1)", BAD, x -> x.save(v, 900, 1));
        }
        for (int v : beside(0, 1023)) {
            refuse("load(0, " + v + ")", BAD, x -> x.load(0, v));
            refuse("save(1, " + v + ", 1)", BAD, x -> x.save(1, v, 1));
        }
        for (int v : beside(0, 255)) refuse("save(0, 900, " + v + ")", BAD, x -> x.save(0, 900, v));
    }

    private static void objects() {
        for (int v : beside(0, 1)) {
            refuse("make(" + v + ", 5, true)", BAD, x -> x.make(v, 5, true));
            refuse("get(" + v + ", 0, 0)", BAD, x -> x.get(v, 0, 0));
            refuse("put(" + v + ", 0, 0, 1)", BAD, x -> x.put(v, 0, 0, 1));
        }
        for (int v : beside(1, 24)) refuse("make(0, " + v + ", true)", BAD, x -> x.make(0, v, true));
        for (int v : NO_OBJECTS) {
            refuse("get(0, " + v + ", 0)", BAD, x -> x.get(0, v, 0));
            refuse("put(0, " + v + ", 0, 1)", BAD, x -> x.put(0, v, 0, 1));
            refuse("about(" + v + ", 1)", BAD, x -> x.about(v, 1));
            if (v == -1) continue;
            refuse("hold(false, 0, " + v + ")", BAD_HOLD, x -> x.hold(false, 0, v));
            refuse("hold(true, 1, " + v + ")", BAD_HOLD, x -> x.hold(true, 1, v));
        }
        for (int v : beside(0, 2)) refuse("get(0, 0, " + v + ")", BAD, x -> x.get(0, 0, v));
        for (int v : beside(0, 2)) refuse("put(0, 0, " + v + ", 1)", BAD, x -> x.put(0, 0, v, 1));
        for (int v : beside(0, 128 + 39)) refuse("put(0, 0, 0, " + v + ")", BAD, x -> x.put(0, 0, 0, v));
        for (int v : new int[] {3, 39}) refuse("put(0, 0, 0, 128 + " + v + ")", NO, x -> x.put(0, 0, 0, 128 + v));
        for (int v : beside(0, 7)) refuse("hold(false, " + v + ", 2)", BAD_HOLD, x -> x.hold(false, v, 2));
        for (int v : beside(0, 3)) refuse("hold(true, " + v + ", 2)", BAD_HOLD, x -> x.hold(true, v, 2));
        for (int v : beside(0, 2)) refuse("gather(" + v + ")", BAD, x -> x.gather(v));
        for (int v : beside(0, 4)) refuse("about(0, " + v + ")", BAD, x -> x.about(0, v));
        for (int v : new int[] {LOW, -1}) refuse("room(" + v + ", 0)", BAD, x -> x.room(v, 0));
        for (int v : beside(0, 1)) refuse("room(0, " + v + ")", BAD, x -> x.room(0, v));
    }

    private static void blame() {
        for (int v : beside(0, 7)) refuse("blame(" + v + ")", -1, x -> x.blame(v));
        for (int v : beside(0, 15)) refuse("count(" + v + ")", BAD, x -> x.count(v));
    }

    /** Three FRAMES with THE HAND in the midst, DIRTY and TAKEN LINES, WEAR, a LOST byte, OBJECTS 0, 1, 2. */
    private static CellToObject lived() {
        CellToObject x = new CellToObject();
        x.limit(3);
        x.frames(3);
        x.rule(2, 2);
        x.make(0, 3, true);
        x.make(1, 9, false);
        x.make(0, 24, true);
        x.make(1, 1, false);
        x.put(0, 0, 0, 128 + 1);
        x.put(1, 2, 23, 128 + 0);
        x.hold(false, 0, 0);
        x.hold(true, 1, 2);
        x.gather(0);
        for (int address : new int[] {200, 300, 201, 90, 210}) x.save(0, address, address % 256);
        for (int address : new int[] {200, 10, 90}) x.load(1, address);
        x.save(1, 90, 4);
        x.flip(40, 3);
        x.flip(40, 5);
        x.rule(3, 1);
        x.save(0, 8, 3);
        x.save(1, 203, 5);
        return x;
    }

    /** What can be seen of an object: all of it in VIEWS parts, for an object bears 512 calls alone. */
    private static List<String> view(CellToObject x, int part) {
        List<String> seen = new ArrayList<>();
        if (part < 2) {
            for (int c = 256 * part; c < 256 * part + 256; c++) see(seen, "cell(" + c + ", 0)", x.cell(c, 0));
        } else if (part == 2) {
            for (int b = 0; b < 128; b++) see(seen, "line " + b, x.line(b / 64, b % 64));
            for (int o = 0; o < 200; o++) see(seen, "about " + o, x.about(o / 5, o % 5));
            for (int k = 1; k <= 16; k++) see(seen, "fewest(" + k + ")", x.fewest(k));
            for (int i = 0; i < 10; i++) see(seen, "room " + i, x.room(i / 2, i % 2));
        } else {
            for (int b = 0; b < 4; b++) see(seen, "open(" + b + ")", x.open(b));
            for (int p = 0; p < 64; p++) see(seen, "page " + p, x.page(p / 2, p % 2));
            for (int w = 0; w < 16; w++) see(seen, "count(" + w + ")", x.count(w));
            for (int c = 0; c < 8; c++) see(seen, "blame(" + c + ")", x.blame(c));
            goOn(seen, x);
            for (int b = 0; b < 64; b++) see(seen, "refresh " + b, x.refresh(b % 4, b / 4));
            for (int i = 0; i < 8; i++) see(seen, "hold(false, " + i + ", -1)", x.hold(false, i, -1));
            for (int i = 0; i < 4; i++) see(seen, "hold(true, " + i + ", -1)", x.hold(true, i, -1));
            for (int w = 0; w < 4; w++) see(seen, "rule(" + w + ", 0)", x.rule(w, 0));
            see(seen, "limit(0)", x.limit(0));
            see(seen, "frames(1)", x.frames(1));
        }
        return seen;
    }

    /** Calls whose answers tell what is remembered: THE HAND, the orders of LINES, what was asked, what is on THE DISC. */
    private static void goOn(List<String> seen, CellToObject x) {
        for (int i = 0; i < 60; i++) {
            int address = 97 * i % 320;
            if (i % 3 == 0) see(seen, "save " + i, x.save(i % 2, address, i));
            else see(seen, "load " + i, x.load(i % 2, address));
            see(seen, "ticks " + i, x.count(14));
        }
        see(seen, "make", x.make(0, 7, true));
        see(seen, "gather(2)", x.gather(2));
        see(seen, "make again", x.make(1, 3, false));
        for (int w = 0; w < 16; w++) see(seen, "count(" + w + ") then", x.count(w));
        for (int c = 0; c < 8; c++) see(seen, "blame(" + c + ") then", x.blame(c));
    }

    private static void see(List<String> seen, String call, long answer) {
        seen.add(call + " answers " + answer);
    }

    private static void same(String after, List<String> seen, List<String> due) {
        DUE.is("views after " + after, seen.size(), due.size());
        for (int i = 0; i < due.size(); i++) {
            DUE.holds(after + ", then " + seen.get(i) + " as " + due.get(i), seen.get(i).equals(due.get(i)));
        }
    }

    private static void nothingChanges() {
        for (int part = 0; part < VIEWS; part++) {
            List<String> due = view(lived(), part);
            for (Refused r : ALL) {
                CellToObject x = lived();
                DUE.is(r.name, r.call.on(x), r.due);
                same(r.name, view(x, part), due);
            }
        }
    }

    /** Of several the first: BAD, then NO; BAD, then FULL; BAD, then NONE. */
    private static void badComesFirst() {
        CellToObject x = lived();
        DUE.is("put(2, 0, 0, 167)", x.put(2, 0, 0, 167), BAD);
        DUE.is("put(0, 39, 0, 167)", x.put(0, 39, 0, 167), BAD);
        DUE.is("put(0, 0, 3, 167)", x.put(0, 0, 3, 167), BAD);
        DUE.is("room(99, 2)", x.room(99, 2), BAD);
        DUE.is("page(9, 2): it has no FRAME", x.page(9, 2), BAD);
        x.hold(false, 0, -1);
        x.gather(0);
        x.gather(0);
        DUE.is("make(0, 1, false)", x.make(0, 1, false), 0);
        DUE.is("make(0, 1, false) behind", x.make(0, 1, false), 1);
        x.hold(false, 0, 1);
        x.gather(0);
        DUE.is("put(0, 1, 0, 128): not even OBJECT 0 is there", x.put(0, 1, 0, 128), NO);
        DUE.is("put(0, 1, 0, 129)", x.put(0, 1, 0, 129), x.about(1, 4));
        DUE.is("put(0, 1, 0, 130)", x.put(0, 1, 0, 130), NO);
        x = chained();
        DUE.is("make(2, 1, false) where no number is", x.make(2, 1, false), BAD);
        DUE.is("make(0, 25, false) where no number is", x.make(0, 25, false), BAD);
        DUE.is("make(0, 0, false) where no number is", x.make(0, 0, false), BAD);
        DUE.is("count(13): no GATHERING", x.count(13), 0);
    }

    /** 40 OBJECTS that hold one another in a row, so that none dies. */
    private static CellToObject chained() {
        CellToObject x = new CellToObject();
        for (int i = 0; i < 40; i++) {
            x.make(0, 3, i == 7);
            if (i > 0) x.put(0, i - 1, 2, 128 + i);
        }
        x.hold(false, 6, 0);
        return x;
    }

    private static void fullLeavesWhatTheGatheringDid() {
        for (int part = 0; part < VIEWS; part++) {
            CellToObject gathered = chained(), full = chained();
            gathered.gather(0);
            DUE.is("make(1, 24, true) where no number is", full.make(1, 24, true), FULL);
            same("FULL", view(full, part), view(gathered, part));
        }
    }
}
