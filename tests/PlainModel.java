import java.util.ArrayList;
import java.util.Arrays;
import java.util.HashMap;
import java.util.HashSet;
import java.util.LinkedHashSet;
import java.util.List;
import java.util.Map;
import java.util.Set;
import java.util.TreeMap;

/**
 * The document once more, written another way round (lists that stand in their order instead of
 * stamps, bytes that are marked instead of rooms that are reckoned), for ModelTest to hold the
 * program against.
 */
final class PlainModel {
    static final int BAD = -1, NO = -2, FULL = -3, NONE = -4, LOST = -5;

    // ---- cells

    boolean[][] cell = new boolean[512][13];
    int[][] wear = new int[4][16];
    Integer[] openRow = new Integer[4];
    int limit;

    static boolean[] encode(int v) {
        boolean[] c = new boolean[13];
        int[] at = {3, 5, 6, 7, 9, 10, 11, 12};
        for (int i = 0; i < 8; i++) c[at[i]] = ((v >> i) & 1) == 1;
        for (int mark = 1; mark <= 8; mark *= 2) {
            boolean even = false;
            for (int p = 1; p <= 12; p++) if ((p & mark) != 0 && p != mark) even ^= c[p];
            c[mark] = even;
        }
        for (int p = 1; p <= 12; p++) c[0] ^= c[p];
        return c;
    }

    static int decode(boolean[] c) {
        int[] at = {3, 5, 6, 7, 9, 10, 11, 12};
        int v = 0;
        for (int i = 0; i < 8; i++) if (c[at[i]]) v += 1 << i;
        return v;
    }

    /** The nearest right cell within one flip, or null. */
    static boolean[] nearest(boolean[] c) {
        for (int flip = -1; flip < 13; flip++) {
            boolean[] d = c.clone();
            if (flip >= 0) d[flip] = !d[flip];
            if (Arrays.equals(d, encode(decode(d)))) return d;
        }
        return null;
    }

    static int pack(boolean[] c) {
        int bits = 0;
        for (int p = 0; p < 13; p++) if (c[p]) bits |= 1 << p;
        return bits;
    }

    int read(int a) {
        boolean[] d = nearest(cell[a]);
        if (d == null) return LOST;
        if (!Arrays.equals(d, cell[a])) counts[8]++;
        cell[a] = d;
        return decode(d);
    }

    static int bankOf(int a) { return (a / 8) % 4; }

    static int rowOf(int a) { return a / 32; }

    void openFor(int a) {
        int bank = bankOf(a), row = rowOf(a);
        if (openRow[bank] != null && openRow[bank] == row) return;
        spend(1, openRow[bank] == null ? 3 : 5);
        openRow[bank] = row;
        wear[bank][row] = 0;
        wearOut(bank, row - 1);
        wearOut(bank, row + 1);
    }

    void wearOut(int bank, int row) {
        if (row < 0 || row > 15) return;
        wear[bank][row]++;
        if (limit > 0 && wear[bank][row] >= limit) {
            int a = row * 32 + bank * 8;
            cell[a][3] = !cell[a][3];
            wear[bank][row] = 0;
        }
    }

    int limit(int v) {
        if (v < 0 || v > 60) return BAD;
        int was = limit;
        limit = v;
        return was;
    }

    int flip(int a, int place) {
        if (a < 0 || a > 511 || place < 0 || place > 12) return BAD;
        cell[a][place] = !cell[a][place];
        return pack(cell[a]);
    }

    int refresh(int bank, int row) {
        if (bank < 0 || bank > 3 || row < 0 || row > 15) return BAD;
        int was = wear[bank][row];
        wear[bank][row] = 0;
        return was;
    }

    int cell(int a, int what) {
        if (a < 0 || a > 511 || what < 0 || what > 1) return BAD;
        if (what == 0) return pack(cell[a]);
        boolean[] d = nearest(cell[a]);
        return d == null ? LOST : decode(d);
    }

    int open(int bank) {
        if (bank < 0 || bank > 3) return BAD;
        return openRow[bank] == null ? NONE : openRow[bank];
    }

    int patterns(int k, int what) {
        if (k < 0 || k > 13 || what < 0 || what > 2) return BAD;
        return turn(encode(0xA7), 0, k, what);
    }

    private static int turn(boolean[] c, int from, int left, int what) {
        if (left == 0) {
            boolean[] d = nearest(c);
            int became = d == null ? 1 : decode(d) == 0xA7 ? 0 : 2;
            return became == what ? 1 : 0;
        }
        int sum = 0;
        for (int p = from; p < 13; p++) {
            c[p] = !c[p];
            sum += turn(c, p + 1, left - 1, what);
            c[p] = !c[p];
        }
        return sum;
    }

    // ---- ticks and counts

    long[] blame = new long[8];
    int[] counts = new int[16];
    boolean gathering;

    void spend(int cause, int ticks) {
        blame[gathering ? 7 : cause] += ticks;
        counts[14] += ticks;
    }

    long blame(int cause) {
        return cause < 0 || cause > 7 ? -1 : blame[cause];
    }

    int count(int what) {
        if (what < 0 || what > 15) return BAD;
        if (what == 11) return objects.size();
        return counts[what];
    }

    // ---- lines

    static final class Line {
        int block;
        boolean dirty;
        int[] bytes = new int[8];
    }

    static final class Processor {
        /** As they came. */
        List<Line> came = new ArrayList<>();
        /** As they were asked, the latest behind. */
        List<Line> asked = new ArrayList<>();
        Set<Integer> askedEver = new HashSet<>(), taken = new HashSet<>();
        LinkedHashSet<Integer> beside = new LinkedHashSet<>();

        Line lineOf(int block) {
            for (Line l : came) if (l.block == block) return l;
            return null;
        }

        void drop(Line l) {
            came.remove(l);
            asked.remove(l);
        }
    }

    Processor[] processors = {new Processor(), new Processor()};
    int sets = 2, ways = 2;
    int[] rules = {0, 1, 0, 0};

    void writeBack(Line l) {
        for (int i = 0; i < 8; i++) if (l.bytes[i] != LOST) cell[l.block * 8 + i] = encode(l.bytes[i]);
        l.dirty = false;
    }

    void store(Line l, int cause) {
        openFor(l.block * 8);
        spend(cause, 2);
        writeBack(l);
    }

    Line ask(int p, int a) {
        int block = a / 8;
        Processor me = processors[p], other = processors[1 - p];
        counts[0]++;
        Line l = me.lineOf(block);
        if (l == null) l = bring(me, other, block);
        spend(0, 1);
        me.asked.remove(l);
        me.asked.add(l);
        me.askedEver.add(block);
        if (!me.beside.remove(block) && me.beside.size() == sets * ways) {
            me.beside.remove(me.beside.iterator().next());
        }
        me.beside.add(block);
        return l;
    }

    Line bring(Processor me, Processor other, int block) {
        int cause = !me.askedEver.contains(block) ? 2
            : me.taken.contains(block) ? 3 : !me.beside.contains(block) ? 4 : 5;
        counts[1]++;
        counts[cause]++;
        Line theirs = other.lineOf(block);
        if (theirs != null && theirs.dirty) store(theirs, cause);
        List<Line> inSet = new ArrayList<>();
        for (Line l : rules[0] == 0 ? me.asked : me.came) if (l.block % sets == block % sets) inSet.add(l);
        if (inSet.size() == ways) {
            if (rules[0] == 2) inSet.sort((x, y) -> x.block - y.block);
            Line leaving = inSet.get(0);
            if (leaving.dirty) store(leaving, cause);
            me.drop(leaving);
        }
        openFor(block * 8);
        spend(cause, 2);
        Line l = new Line();
        l.block = block;
        for (int i = 0; i < 8; i++) l.bytes[i] = read(block * 8 + i);
        me.came.add(l);
        me.taken.remove(block);
        return l;
    }

    void write(int p, int a, int v) {
        Line l = ask(p, a);
        Processor other = processors[1 - p];
        Line theirs = other.lineOf(l.block);
        if (theirs != null) {
            other.drop(theirs);
            other.taken.add(l.block);
        }
        l.bytes[a % 8] = v;
        if (rules[1] == 1) {
            l.dirty = true;
        } else {
            openFor(a);
            spend(0, 1);
            cell[a] = encode(v);
        }
    }

    void forget(int block) {
        for (Processor p : processors) {
            Line l = p.lineOf(block);
            if (l != null) p.drop(l);
            p.askedEver.remove(block);
            p.taken.remove(block);
            p.beside.remove(block);
        }
    }

    int lines(int newSets, int newWays) {
        if (!List.of(1, 2, 4).contains(newSets) || newWays < 1 || newWays > 4) return BAD;
        for (Processor p : processors) for (Line l : p.came) if (l.dirty) writeBack(l);
        processors = new Processor[] {new Processor(), new Processor()};
        sets = newSets;
        ways = newWays;
        return sets * ways;
    }

    int rule(int what, int v) {
        int[] top = {2, 1, 2, 1};
        if (what < 0 || what > 3 || v < 0 || v > top[what]) return BAD;
        int was = rules[what];
        rules[what] = v;
        return was;
    }

    int line(int p, int block) {
        if (p < 0 || p > 1 || block < 0 || block > 63) return BAD;
        Line l = processors[p].lineOf(block);
        return l == null ? 0 : l.dirty ? 2 : 1;
    }

    // ---- pages

    int frames = 4, hand;
    /** PAGE by FRAME. */
    Map<Integer, Integer> inFrame = new TreeMap<>();
    /** FRAMES as their PAGES came, and as they were TOUCHED. */
    List<Integer> cameOrder = new ArrayList<>(), touchOrder = new ArrayList<>();
    Set<Integer> marked = new HashSet<>(), everTouched = new HashSet<>();
    Map<Integer, int[]> disc = new HashMap<>();
    List<Integer> run = new ArrayList<>();

    Integer frameOf(int page) {
        for (Map.Entry<Integer, Integer> e : inFrame.entrySet()) if (e.getValue() == page) return e.getKey();
        return null;
    }

    int touch(int address) {
        int page = address / 32;
        Integer frame = frameOf(page);
        if (frame == null) {
            frame = fault(page);
        }
        touchOrder.remove(frame);
        touchOrder.add(frame);
        marked.add(frame);
        everTouched.add(page);
        if (run.isEmpty() || run.get(run.size() - 1) != page) run.add(page);
        if (run.size() > 100) run.remove(0);
        return frame * 32 + address % 32;
    }

    int fault(int page) {
        counts[6]++;
        spend(6, 20);
        int frame = 0;
        while (frame < frames && inFrame.containsKey(frame)) frame++;
        if (frame == frames) {
            if (rules[2] == 0) frame = cameOrder.get(0);
            if (rules[2] == 1) frame = touchOrder.get(0);
            if (rules[2] == 2) {
                while (marked.remove(hand)) hand = (hand + 1) % frames;
                frame = hand;
                hand = (hand + 1) % frames;
            }
            leave(frame, true);
        }
        int[] bytes = disc.getOrDefault(page, new int[32]);
        for (int i = 0; i < 32; i++) {
            boolean[] c = encode(Math.max(0, bytes[i]));
            if (bytes[i] == LOST) c[1] = c[2] = true;
            cell[frame * 32 + i] = c;
        }
        inFrame.put(frame, page);
        cameOrder.add(frame);
        return frame;
    }

    void leave(int frame, boolean timed) {
        for (Processor p : processors) {
            for (int b = frame * 4; b < frame * 4 + 4; b++) {
                Line l = p.lineOf(b);
                if (l == null || !l.dirty) continue;
                if (timed) store(l, 6);
                else writeBack(l);
            }
        }
        for (int b = frame * 4; b < frame * 4 + 4; b++) forget(b);
        if (timed) spend(6, 20);
        counts[7]++;
        int[] bytes = new int[32];
        for (int i = 0; i < 32; i++) bytes[i] = read(frame * 32 + i);
        disc.put(inFrame.remove(frame), bytes);
        cameOrder.remove((Integer) frame);
        touchOrder.remove((Integer) frame);
        marked.remove(frame);
    }

    int frames(int n) {
        if (n < 1 || n > 16) return BAD;
        int was = frames;
        for (int f = n; f < 16; f++) if (inFrame.containsKey(f)) leave(f, false);
        frames = n;
        hand = 0;
        return was;
    }

    int page(int page, int what) {
        if (page < 0 || page > 31 || what < 0 || what > 1) return BAD;
        if (what == 1) return everTouched.contains(page) ? 1 : 0;
        return frameOf(page) == null ? NONE : frameOf(page);
    }

    int loadByte(int p, int address) {
        int a = touch(address);
        return ask(p, a).bytes[a % 8];
    }

    void saveByte(int p, int address, int v) {
        write(p, touch(address), v);
    }

    int loadTold(int p, int address) {
        int v = loadByte(p, address);
        if (v == LOST) counts[9]++;
        return v;
    }

    int load(int p, int address) {
        if (p < 0 || p > 1 || address < 0 || address > 1023) return BAD;
        return loadTold(p, address);
    }

    int save(int p, int address, int v) {
        if (p < 0 || p > 1 || address < 0 || address > 1023 || v < 0 || v > 255) return BAD;
        int before = counts[14];
        saveByte(p, address, v);
        return counts[14] - before;
    }

    int fewest(int k) {
        if (k < 1 || k > 16) return BAD;
        Set<Integer> held = new HashSet<>();
        int faults = 0;
        for (int i = 0; i < run.size(); i++) {
            if (held.contains(run.get(i))) continue;
            faults++;
            if (held.size() == k) {
                // Strike out those that come soonest until one is left.
                Set<Integer> left = new HashSet<>(held);
                for (int j = i + 1; j < run.size() && left.size() > 1; j++) left.remove(run.get(j));
                held.remove(left.iterator().next());
            }
            held.add(run.get(i));
        }
        return faults;
    }

    // ---- objects

    static final class Thing {
        int number, address, n, age, ticks;
        boolean rite;

        int room() { return n % 8 == 0 ? n : n + 8 - n % 8; }
    }

    Map<Integer, Thing> objects = new TreeMap<>();
    Thing[] roots = new Thing[8], weak = new Thing[4];

    /** Free ROOMS by ADDRESSES: where and how many bytes. */
    List<int[]> rooms() {
        boolean[] full = new boolean[1025];
        full[1024] = true;
        for (Thing t : objects.values()) Arrays.fill(full, t.address, t.address + t.room(), true);
        List<int[]> rooms = new ArrayList<>();
        for (int x = 0; x < 1024; x++) {
            if (full[x]) continue;
            int end = x;
            while (!full[end]) end++;
            rooms.add(new int[] {x, end - x});
            x = end;
        }
        return rooms;
    }

    int[] roomFor(int bytes) {
        List<int[]> fitting = new ArrayList<>(rooms());
        fitting.removeIf(r -> r[1] < bytes);
        if (rules[3] == 1) fitting.sort((x, y) -> x[1] - y[1]);
        return fitting.isEmpty() ? null : fitting.get(0);
    }

    int make(int p, int n, boolean rite) {
        if (p < 0 || p > 1 || n < 1 || n > 24) return BAD;
        Thing t = new Thing();
        t.n = n;
        t.rite = rite;
        if (roomFor(t.room()) == null || objects.size() == 40) gatherNow(0);
        int[] room = roomFor(t.room());
        if (room == null || objects.size() == 40) return FULL;
        t.address = room[0];
        while (objects.containsKey(t.number)) t.number++;
        objects.put(t.number, t);
        for (int f = 0; f < n; f++) saveByte(p, t.address + f, 0);
        return t.number;
    }

    int get(int p, int object, int f) {
        Thing t = objects.get(object);
        if (p < 0 || p > 1 || t == null || f < 0 || f >= t.n) return BAD;
        int before = counts[14];
        int v = loadTold(p, t.address + f);
        t.ticks += counts[14] - before;
        return v;
    }

    int put(int p, int object, int f, int v) {
        Thing t = objects.get(object);
        if (p < 0 || p > 1 || t == null || f < 0 || f >= t.n || v < 0 || v > 128 + 39) return BAD;
        if (v > 127 && !objects.containsKey(v - 128)) return NO;
        int before = counts[14];
        saveByte(p, t.address + f, v);
        t.ticks += counts[14] - before;
        return counts[14] - before;
    }

    int hold(boolean isWeak, int i, int object) {
        Thing[] holders = isWeak ? weak : roots;
        if (i < 0 || i >= holders.length) return -100;
        if (object != -1 && !objects.containsKey(object)) return -100;
        int was = holders[i] == null ? -1 : holders[i].number;
        holders[i] = objects.get(object);
        return was;
    }

    int gather(int kind) {
        if (kind < 0 || kind > 2) return BAD;
        return gatherNow(kind);
    }

    int gatherNow(int kind) {
        gathering = true;
        counts[13]++;
        LinkedHashSet<Thing> row = new LinkedHashSet<>();
        for (Thing t : roots) if (t != null) row.add(t);
        if (kind == 2) for (Thing t : objects.values()) if (t.age >= 2) row.add(t);
        Set<Thing> scanned = new HashSet<>();
        trace(row, scanned);
        for (Thing t : objects.values()) {
            if (!t.rite || row.contains(t)) continue;
            t.rite = false;
            counts[10]++;
            row.add(t);
            trace(row, scanned);
        }
        int dead = 0;
        for (Thing t : new ArrayList<>(objects.values())) {
            if (row.contains(t)) continue;
            dead++;
            objects.remove(t.number);
            for (int i = 0; i < 4; i++) if (weak[i] == t) weak[i] = null;
        }
        counts[12] += dead;
        if (kind > 0) closeUp();
        for (Thing t : objects.values()) t.age++;
        gathering = false;
        return dead;
    }

    void trace(LinkedHashSet<Thing> row, Set<Thing> scanned) {
        while (scanned.size() < row.size()) {
            Thing next = null;
            for (Thing t : row) if (next == null && !scanned.contains(t)) next = t;
            scanned.add(next);
            for (int f = 0; f < next.n; f++) {
                int v = loadByte(0, next.address + f);
                if (v >= 128 && objects.containsKey(v - 128)) row.add(objects.get(v - 128));
            }
        }
    }

    void closeUp() {
        List<Thing> byAddress = new ArrayList<>(objects.values());
        byAddress.sort((x, y) -> x.address - y.address);
        int to = 0;
        for (Thing t : byAddress) {
            if (t.address != to) {
                for (int f = 0; f < t.n; f++) {
                    int v = loadByte(0, t.address + f);
                    if (v == LOST) continue;
                    saveByte(0, to + f, v);
                    counts[15]++;
                }
                t.address = to;
            }
            to += t.room();
        }
    }

    int about(int object, int what) {
        Thing t = objects.get(object);
        if (t == null || what < 0 || what > 4) return BAD;
        return new int[] {t.address, t.n, t.age, t.rite ? 1 : 0, t.ticks}[what];
    }

    int room(int i, int what) {
        if (i < 0 || what < 0 || what > 1) return BAD;
        return i < rooms().size() ? rooms().get(i)[what] : NONE;
    }
}
