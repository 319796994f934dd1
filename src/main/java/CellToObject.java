/**
 * Memory from cell to object: cells, the lines of two processors above them, pages above the
 * frames, rooms and objects above the addresses. Each layer is a class inside and knows only the
 * layers below it.
 */
public final class CellToObject {
    public static final int BAD = -1, NO = -2, FULL = -3, NONE = -4, LOST = -5;

    private static final int BAD_HOLD = -100, NOBODY = -1;

    /** Causes of ticks; the four of a MISS bear the same numbers in what is counted. */
    private static final int STEP = 0, ROW = 1, NEVER = 2, OTHER = 3, ROOM = 4, SET = 5, PAGE = 6,
        GATHERING = 7;
    /** Stands for a cause where neither ticks are spent nor ROWS OPENED. */
    private static final int UNTIMED = -1;

    private static final int ASKED = 0, MISSES = 1, FAULTS = 6, WENT = 7, MENDED = 8,
        TOLD_LOST = 9, RITES = 10, THERE = 11, DEAD = 12, GATHERINGS = 13, TICKS = 14, MOVED = 15;

    private static final int WHO = 0, LATE = 1, GOES = 2, FIT = 3;
    private static final int[] HIGHEST_RULE = {2, 1, 2, 1};

    private static final int BANKS = 4, ROWS = 16, CELLS = 512, PLACES = 13, BLOCKS = 64;
    private static final int HIGHEST_LIMIT = 60;
    private static final int FRAMES = 16, PAGES = 32, PAGE_BYTES = 32, ADDRESSES = 1024;
    private static final int OBJECTS = 40, MOST_FIELDS = 24, ROOTS = 8, WEAK = 4;
    private static final int HOLDS_OBJECT = 128;

    private final int[] rules = {0, 1, 0, 0};
    private final Ledger ledger;
    private final Cells cells;
    private final Caches caches;
    private final Memory memory;
    private final Heap heap;

    public CellToObject() {
        ledger = new Ledger();
        cells = new Cells(ledger);
        caches = new Caches(ledger, cells, rules);
        memory = new Memory(ledger, cells, caches, rules);
        heap = new Heap(ledger, caches, memory, rules);
    }

    // ---- cells

    public int limit(int v) {
        if (!within(v, HIGHEST_LIMIT)) return BAD;
        int was = cells.limit;
        cells.limit = v;
        return was;
    }

    public int flip(int cell, int place) {
        if (!within(cell, CELLS - 1) || !within(place, PLACES - 1)) return BAD;
        cells.bits[cell] ^= 1 << place;
        return cells.bits[cell];
    }

    public int refresh(int bank, int row) {
        if (!within(bank, BANKS - 1) || !within(row, ROWS - 1)) return BAD;
        int block = row * BANKS + bank;
        int was = cells.wear[block];
        cells.wear[block] = 0;
        return was;
    }

    public int cell(int cell, int what) {
        if (!within(cell, CELLS - 1) || !within(what, 1)) return BAD;
        int bits = cells.bits[cell];
        if (what == 0) return bits;
        int right = Cells.righted(bits);
        return right == LOST ? LOST : Cells.valueOf(right);
    }

    public int open(int bank) {
        if (!within(bank, BANKS - 1)) return BAD;
        return cells.openRow[bank];
    }

    public int patterns(int k, int what) {
        if (!within(k, PLACES) || !within(what, 2)) return BAD;
        // The marks are linear, so what becomes of 0 becomes of every value.
        int found = 0;
        for (int turned = 0; turned < 1 << PLACES; turned++) {
            if (Integer.bitCount(turned) == k && Cells.outcome(turned) == what) found++;
        }
        return found;
    }

    // ---- lines

    public int lines(int sets, int ways) {
        if (sets != 1 && sets != 2 && sets != 4) return BAD;
        if (ways < 1 || ways > 4) return BAD;
        caches.reshape(sets, ways);
        return sets * ways;
    }

    public int rule(int what, int v) {
        if (!within(what, FIT) || !within(v, HIGHEST_RULE[what])) return BAD;
        int was = rules[what];
        rules[what] = v;
        return was;
    }

    public int line(int processor, int block) {
        if (!within(processor, 1) || !within(block, BLOCKS - 1)) return BAD;
        return caches.state[processor * BLOCKS + block];
    }

    // ---- pages

    public int frames(int n) {
        if (n < 1 || n > FRAMES) return BAD;
        int was = memory.frames;
        memory.resize(n);
        return was;
    }

    public int page(int page, int what) {
        if (!within(page, PAGES - 1) || !within(what, 1)) return BAD;
        if (what == 0) return memory.frameOf[page];
        return memory.everTouched[page] ? 1 : 0;
    }

    public int load(int processor, int address) {
        if (!within(processor, 1) || !within(address, ADDRESSES - 1)) return BAD;
        return loadTold(processor, address);
    }

    public int save(int processor, int address, int v) {
        if (!within(processor, 1) || !within(address, ADDRESSES - 1) || !within(v, 255)) return BAD;
        int before = ledger.tally[TICKS];
        caches.change(processor, memory.touch(address), v);
        return ledger.tally[TICKS] - before;
    }

    public int fewest(int k) {
        if (k < 1 || k > FRAMES) return BAD;
        return memory.run.fewestFaults(k);
    }

    // ---- objects

    public int make(int processor, int n, boolean rite) {
        if (!within(processor, 1) || n < 1 || n > MOST_FIELDS) return BAD;
        if (heap.roomFor(n) == NONE || heap.freeNumber() == NONE) heap.collect(0);
        int where = heap.roomFor(n), object = heap.freeNumber();
        if (where == NONE || object == NONE) return FULL;
        heap.place(object, where, n, rite);
        for (int f = 0; f < n; f++) caches.change(processor, memory.touch(where + f), 0);
        return object;
    }

    public int get(int processor, int object, int f) {
        if (!within(processor, 1) || !heap.hasField(object, f)) return BAD;
        int before = ledger.tally[TICKS];
        int v = loadTold(processor, heap.address[object] + f);
        heap.ticks[object] += ledger.tally[TICKS] - before;
        return v;
    }

    public int put(int processor, int object, int f, int v) {
        if (!within(processor, 1) || !heap.hasField(object, f)) return BAD;
        if (!within(v, HOLDS_OBJECT + OBJECTS - 1)) return BAD;
        if (v >= HOLDS_OBJECT && !heap.has(v - HOLDS_OBJECT)) return NO;
        int before = ledger.tally[TICKS];
        caches.change(processor, memory.touch(heap.address[object] + f), v);
        int spent = ledger.tally[TICKS] - before;
        heap.ticks[object] += spent;
        return spent;
    }

    public int hold(boolean weak, int i, int object) {
        int[] holders = weak ? heap.weak : heap.roots;
        if (!within(i, holders.length - 1)) return BAD_HOLD;
        if (object != NOBODY && !heap.has(object)) return BAD_HOLD;
        int was = holders[i];
        holders[i] = object;
        return was;
    }

    public int gather(int kind) {
        if (!within(kind, 2)) return BAD;
        return heap.collect(kind);
    }

    public int about(int object, int what) {
        if (!heap.has(object)) return BAD;
        switch (what) {
            case 0: return heap.address[object];
            case 1: return heap.fields[object];
            case 2: return heap.age[object];
            case 3: return heap.rite[object] ? 1 : 0;
            case 4: return heap.ticks[object];
            default: return BAD;
        }
    }

    public int room(int i, int what) {
        if (i < 0 || !within(what, 1)) return BAD;
        int start = heap.freeRoom(i);
        if (start == NONE) return NONE;
        return what == 0 ? start : heap.freeEnd(start) - start;
    }

    // ---- blame

    public long blame(int cause) {
        if (!within(cause, GATHERING)) return BAD;
        return ledger.blamed[cause];
    }

    public int count(int what) {
        if (!within(what, MOVED)) return BAD;
        return ledger.tally[what];
    }

    private static boolean within(int v, int highest) {
        return v >= 0 && v <= highest;
    }

    private int loadTold(int processor, int address) {
        int v = caches.ask(processor, memory.touch(address));
        if (v == LOST) ledger.add(TOLD_LOST, 1);
        return v;
    }

    /** Each tick on one cause, and how often each thing happened. */
    private static final class Ledger {
        final int[] blamed = new int[GATHERING + 1];
        final int[] tally = new int[MOVED + 1];
        boolean gathering;

        void spend(int cause, int ticks) {
            blamed[gathering ? GATHERING : cause] += ticks;
            tally[TICKS] += ticks;
        }

        void add(int what, int n) {
            tally[what] += n;
        }
    }

    private static final class Cells {
        private static final int[] VALUE_PLACES = {3, 5, 6, 7, 9, 10, 11, 12};

        final int[] bits = new int[CELLS];
        /** By BLOCKS, for a BLOCK is what one ROW has in one BANK. */
        final int[] wear = new int[BLOCKS];
        final int[] openRow = {NONE, NONE, NONE, NONE};
        int limit;
        private final Ledger ledger;

        Cells(Ledger ledger) {
            this.ledger = ledger;
        }

        static int coded(int v) {
            int code = 0, marks = 0, odd = 0;
            for (int i = 0; i < 8; i++) {
                if ((v >> i & 1) == 0) continue;
                code |= 1 << VALUE_PLACES[i];
                marks ^= VALUE_PLACES[i];
                odd ^= 1;
            }
            for (int i = 0; i < 4; i++) {
                if ((marks >> i & 1) == 0) continue;
                code |= 1 << (1 << i);
                odd ^= 1;
            }
            return code | odd;
        }

        static int valueOf(int code) {
            return code >> 3 & 1 | code >> 4 & 14 | code >> 5 & 240;
        }

        /** The bits as RIGHT reading would leave them, or LOST. */
        static int righted(int code) {
            int odd = code & 1, marks = 0;
            for (int place = 1; place < PLACES; place++) {
                if ((code >> place & 1) == 0) continue;
                marks ^= place;
                odd ^= 1;
            }
            if (odd == 0) return marks == 0 ? code : LOST;
            return marks < PLACES ? code ^ 1 << marks : LOST;
        }

        /** What becomes of the value 0: 0 it is told, 1 LOST, 2 another one is told. */
        static int outcome(int code) {
            int right = righted(code);
            if (right == LOST) return 1;
            return valueOf(right) == 0 ? 0 : 2;
        }

        int read(int cell) {
            int right = righted(bits[cell]);
            if (right == LOST) return LOST;
            if (right != bits[cell]) {
                bits[cell] = right;
                ledger.add(MENDED, 1);
            }
            return valueOf(right);
        }

        /** Sees that a BLOCK's ROW is OPEN: the ticks that it takes. */
        int openFor(int block) {
            int bank = block % BANKS, row = block / BANKS;
            if (openRow[bank] == row) return 0;
            int ticks = openRow[bank] == NONE ? 3 : 5;
            openRow[bank] = row;
            wear[block] = 0;
            for (int near = block - BANKS; near <= block + BANKS; near += 2 * BANKS) {
                if (near < 0 || near >= BLOCKS) continue;
                wear[near]++;
                if (limit == 0 || wear[near] < limit) continue;
                bits[near * 8] ^= 1 << 3;
                wear[near] = 0;
            }
            return ticks;
        }
    }

    /** The LINES of both PROCESSORS, kept by BLOCKS at PROCESSOR * 64 + BLOCK. */
    private static final class Caches {
        private static final int ABSENT = 0, CLEAN = 1, DIRTY = 2;

        final int[] state = new int[2 * BLOCKS];
        private final int[] bytes = new int[2 * CELLS];
        private final int[] came = new int[2 * BLOCKS];
        /** 0: not asked for yet. */
        private final int[] askedAt = new int[2 * BLOCKS];
        private final boolean[] taken = new boolean[2 * BLOCKS];
        private final boolean[] beside = new boolean[2 * BLOCKS];
        private final int[] playing = new int[2];
        private int sets = 2, ways = 2, clock;
        private final Ledger ledger;
        private final Cells cells;
        private final int[] rules;

        Caches(Ledger ledger, Cells cells, int[] rules) {
            this.ledger = ledger;
            this.cells = cells;
            this.rules = rules;
        }

        /** The byte that a PROCESSOR has for a CELL once it was asked for it. */
        int ask(int processor, int cell) {
            int at = processor * BLOCKS + cell / 8;
            ledger.add(ASKED, 1);
            if (state[at] == ABSENT) miss(at);
            ledger.spend(STEP, 1);
            if (!beside[at]) joinPlay(processor, at);
            clock++;
            askedAt[at] = clock;
            return bytes[at * 8 + cell % 8];
        }

        void change(int processor, int cell, int v) {
            ask(processor, cell);
            int block = cell / 8, at = processor * BLOCKS + block;
            int twin = twinOf(at);
            if (state[twin] != ABSENT) {
                state[twin] = ABSENT;
                taken[twin] = true;
            }
            bytes[at * 8 + cell % 8] = v;
            if (rules[LATE] == 1) {
                state[at] = DIRTY;
                return;
            }
            ledger.spend(ROW, cells.openFor(block));
            ledger.spend(STEP, 1);
            cells.bits[cell] = Cells.coded(v);
        }

        private void miss(int at) {
            int block = at % BLOCKS, twin = twinOf(at), cause = causeOf(at);
            ledger.add(MISSES, 1);
            ledger.add(cause, 1);
            if (state[twin] == DIRTY) store(twin, cause);
            int leaving = leavingFor(at);
            if (leaving != NONE) {
                if (state[leaving] == DIRTY) store(leaving, cause);
                state[leaving] = ABSENT;
            }
            ledger.spend(ROW, cells.openFor(block));
            ledger.spend(cause, 2);
            for (int i = 0; i < 8; i++) bytes[at * 8 + i] = cells.read(block * 8 + i);
            state[at] = CLEAN;
            taken[at] = false;
            came[at] = clock;
        }

        private int causeOf(int at) {
            if (askedAt[at] == 0) return NEVER;
            if (taken[at]) return OTHER;
            return beside[at] ? SET : ROOM;
        }

        /** The LINE that makes way in the SET, or NONE while the SET has a free one. */
        private int leavingFor(int at) {
            // SETS are 1, 2 or 4: these bits of a BLOCK tell its SET.
            int setBits = sets - 1, first = at - at % BLOCKS;
            int held = 0, leaving = NONE;
            for (int b = 0; b < BLOCKS; b++) {
                int other = first + b;
                if ((other & setBits) != (at & setBits) || state[other] == ABSENT) continue;
                held++;
                if (leaving == NONE || goesAhead(other, leaving)) leaving = other;
            }
            return held < ways ? NONE : leaving;
        }

        private boolean goesAhead(int one, int other) {
            if (rules[WHO] == 0) return askedAt[one] < askedAt[other];
            if (rules[WHO] == 1) return came[one] < came[other];
            return one < other;
        }

        private void joinPlay(int processor, int at) {
            if (playing[processor] >= sets * ways) leavePlay(processor);
            beside[at] = true;
            playing[processor]++;
        }

        private void leavePlay(int processor) {
            int oldest = NONE;
            for (int b = 0; b < BLOCKS; b++) {
                int at = processor * BLOCKS + b;
                if (!beside[at]) continue;
                if (oldest == NONE || askedAt[at] < askedAt[oldest]) oldest = at;
            }
            if (oldest == NONE) return;
            beside[oldest] = false;
            playing[processor]--;
        }

        private void store(int at, int cause) {
            int block = at % BLOCKS;
            if (cause != UNTIMED) {
                ledger.spend(ROW, cells.openFor(block));
                ledger.spend(cause, 2);
            }
            for (int i = 0; i < 8; i++) {
                int v = bytes[at * 8 + i];
                if (v != LOST) cells.bits[block * 8 + i] = Cells.coded(v);
            }
            state[at] = CLEAN;
        }

        /** BLOCKS from one on go from both PROCESSORS, with all that was remembered of them. */
        void dismiss(int firstBlock, int n, int cause) {
            for (int processor = 0; processor < 2; processor++) {
                for (int i = 0; i < n; i++) {
                    int at = processor * BLOCKS + firstBlock + i;
                    if (state[at] == DIRTY) store(at, cause);
                    state[at] = ABSENT;
                    askedAt[at] = 0;
                    taken[at] = false;
                    if (beside[at]) playing[processor]--;
                    beside[at] = false;
                }
            }
        }

        void reshape(int newSets, int newWays) {
            dismiss(0, BLOCKS, UNTIMED);
            sets = newSets;
            ways = newWays;
        }

        private static int twinOf(int at) {
            return at < BLOCKS ? at + BLOCKS : at - BLOCKS;
        }
    }

    /** PAGES in FRAMES and on THE DISC. */
    private static final class Memory {
        /** The CELL of a LOST byte that came from THE DISC: 0 with PLACES 1 and 2 turned. */
        private static final int LOST_BITS = 6;

        int frames = 4;
        final int[] frameOf = new int[PAGES];
        final boolean[] everTouched = new boolean[PAGES];
        final Run run = new Run();
        private int hand, clock;
        private final int[] pageIn = new int[FRAMES];
        private final int[] came = new int[FRAMES];
        private final int[] touchedAt = new int[FRAMES];
        private final boolean[] touchedSinceHand = new boolean[FRAMES];
        private final int[] disc = new int[ADDRESSES];
        private final Ledger ledger;
        private final Cells cells;
        private final Caches caches;
        private final int[] rules;

        Memory(Ledger ledger, Cells cells, Caches caches, int[] rules) {
            this.ledger = ledger;
            this.cells = cells;
            this.caches = caches;
            this.rules = rules;
            for (int page = 0; page < PAGES; page++) frameOf[page] = NONE;
            for (int frame = 0; frame < FRAMES; frame++) pageIn[frame] = NONE;
        }

        /** The CELL that an ADDRESS has once its PAGE was TOUCHED. */
        int touch(int address) {
            int page = address / PAGE_BYTES, frame = frameOf[page];
            clock++;
            if (frame == NONE) {
                ledger.add(FAULTS, 1);
                ledger.spend(PAGE, 20);
                frame = frameToFill();
                if (pageIn[frame] != NONE) leave(frame, PAGE);
                arrive(page, frame);
            }
            touchedAt[frame] = clock;
            touchedSinceHand[frame] = true;
            everTouched[page] = true;
            run.append(page);
            return frame * PAGE_BYTES + address % PAGE_BYTES;
        }

        private int frameToFill() {
            for (int frame = 0; frame < frames; frame++) {
                if (pageIn[frame] == NONE) return frame;
            }
            if (rules[GOES] == 0) return earliest(came);
            if (rules[GOES] == 1) return earliest(touchedAt);
            return handStops();
        }

        private int earliest(int[] times) {
            int found = 0;
            for (int frame = 1; frame < frames; frame++) {
                if (times[frame] < times[found]) found = frame;
            }
            return found;
        }

        private int handStops() {
            int found = hand;
            // A whole turn passes every FRAME at most once, so the next one stops.
            for (int step = 0; step <= frames; step++) {
                found = hand;
                hand = found + 1 < frames ? found + 1 : 0;
                if (!touchedSinceHand[found]) break;
                touchedSinceHand[found] = false;
            }
            return found;
        }

        private void leave(int frame, int cause) {
            int page = pageIn[frame];
            caches.dismiss(frame * BANKS, BANKS, cause);
            if (cause != UNTIMED) ledger.spend(cause, 20);
            ledger.add(WENT, 1);
            for (int i = 0; i < PAGE_BYTES; i++) {
                disc[page * PAGE_BYTES + i] = cells.read(frame * PAGE_BYTES + i);
            }
            frameOf[page] = NONE;
            pageIn[frame] = NONE;
        }

        private void arrive(int page, int frame) {
            for (int i = 0; i < PAGE_BYTES; i++) {
                int cell = frame * PAGE_BYTES + i, v = disc[page * PAGE_BYTES + i];
                cells.bits[cell] = v == LOST ? LOST_BITS : Cells.coded(v);
            }
            frameOf[page] = frame;
            pageIn[frame] = page;
            came[frame] = clock;
        }

        void resize(int n) {
            for (int frame = n; frame < FRAMES; frame++) {
                if (pageIn[frame] != NONE) leave(frame, UNTIMED);
            }
            frames = n;
            hand = 0;
        }
    }

    /** THE RUN: the latest PAGES as they were TOUCHED. */
    private static final class Run {
        private static final int LENGTH = 100, NOT_HELD = -1;

        private final int[] pages = new int[LENGTH];
        /** Where the PAGE stands that was TOUCHED longest ago of THE RUN. */
        private int first;
        private int length;
        /** For fewestFaults alone: where in THE RUN a PAGE that is held comes next. */
        private final int[] next = new int[PAGES];

        private int pageAt(int i) {
            return pages[(first + i) % LENGTH];
        }

        void append(int page) {
            if (length > 0 && pageAt(length - 1) == page) return;
            pages[(first + length) % LENGTH] = page;
            if (length < LENGTH) length++;
            else first = (first + 1) % LENGTH;
        }

        /** No rule has fewer FAULTS than the one by which the PAGE goes that comes next last. */
        int fewestFaults(int k) {
            for (int page = 0; page < PAGES; page++) next[page] = NOT_HELD;
            int faults = 0, held = 0;
            for (int i = 0; i < length; i++) {
                int page = pageAt(i);
                if (next[page] == NOT_HELD) {
                    faults++;
                    if (held < k) held++;
                    else next[furthest()] = NOT_HELD;
                }
                next[page] = nextUse(page, i + 1);
            }
            return faults;
        }

        private int nextUse(int page, int from) {
            for (int i = from; i < length; i++) {
                if (pageAt(i) == page) return i;
            }
            return length;
        }

        private int furthest() {
            int found = 0;
            for (int page = 1; page < PAGES; page++) {
                if (next[page] > next[found]) found = page;
            }
            return found;
        }
    }

    private static final class Heap {
        /** NONE: no such OBJECT is there. */
        final int[] address = new int[OBJECTS];
        final int[] fields = new int[OBJECTS];
        final int[] age = new int[OBJECTS];
        final boolean[] rite = new boolean[OBJECTS];
        final int[] ticks = new int[OBJECTS];
        final int[] roots = new int[ROOTS];
        final int[] weak = new int[WEAK];
        private final int[] row = new int[OBJECTS];
        private final boolean[] inRow = new boolean[OBJECTS];
        private int rowLength;
        private final Ledger ledger;
        private final Caches caches;
        private final Memory memory;
        private final int[] rules;

        Heap(Ledger ledger, Caches caches, Memory memory, int[] rules) {
            this.ledger = ledger;
            this.caches = caches;
            this.memory = memory;
            this.rules = rules;
            for (int o = 0; o < OBJECTS; o++) address[o] = NONE;
            for (int i = 0; i < ROOTS; i++) roots[i] = NOBODY;
            for (int i = 0; i < WEAK; i++) weak[i] = NOBODY;
        }

        boolean has(int object) {
            return object >= 0 && object < OBJECTS && address[object] != NONE;
        }

        boolean hasField(int object, int f) {
            return has(object) && f >= 0 && f < fields[object];
        }

        int freeNumber() {
            for (int o = 0; o < OBJECTS; o++) {
                if (address[o] == NONE) return o;
            }
            return NONE;
        }

        void place(int object, int where, int n, boolean hasRite) {
            address[object] = where;
            fields[object] = n;
            age[object] = 0;
            rite[object] = hasRite;
            ticks[object] = 0;
            ledger.add(THERE, 1);
        }

        // ---- rooms: what no OBJECT takes is free, so they are split and joined by themselves

        private static int rounded(int n) {
            return (n + 7) / 8 * 8;
        }

        /** The OBJECT that lies lowest from an ADDRESS on, or NOBODY. */
        private int objectFrom(int from) {
            int found = NOBODY;
            for (int o = 0; o < OBJECTS; o++) {
                if (address[o] == NONE || address[o] < from) continue;
                if (found == NOBODY || address[o] < address[found]) found = o;
            }
            return found;
        }

        /** Where the first free byte is from an ADDRESS on, 1024 if there is none. */
        private int freeStart(int from) {
            int start = from;
            for (int i = 0; i < OBJECTS; i++) {
                int object = objectFrom(start);
                if (object == NOBODY || address[object] > start) break;
                start += rounded(fields[object]);
            }
            return start;
        }

        int freeEnd(int start) {
            int object = objectFrom(start);
            return object == NOBODY ? ADDRESSES : address[object];
        }

        /** Where the i-th free ROOM is, or NONE. */
        int freeRoom(int i) {
            int start = freeStart(0);
            for (int k = 0; k < i && k <= OBJECTS && start < ADDRESSES; k++) {
                start = freeStart(freeEnd(start));
            }
            return start < ADDRESSES ? start : NONE;
        }

        int roomFor(int n) {
            int size = rounded(n), best = NONE, bestBytes = 0;
            int start = freeStart(0);
            for (int i = 0; i <= OBJECTS && start < ADDRESSES; i++) {
                int end = freeEnd(start), bytes = end - start;
                if (bytes >= size && (best == NONE || bytes < bestBytes)) {
                    best = start;
                    bestBytes = bytes;
                    if (rules[FIT] == 0) break;
                }
                start = freeStart(end);
            }
            return best;
        }

        // ---- gathering

        /** How many OBJECTS died. */
        int collect(int kind) {
            ledger.gathering = true;
            ledger.add(GATHERINGS, 1);
            startRow(kind);
            int followed = follow(0);
            for (int o = 0; o < OBJECTS; o++) {
                if (!has(o) || inRow[o] || !rite[o]) continue;
                rite[o] = false;
                ledger.add(RITES, 1);
                putBehind(o);
                followed = follow(followed);
            }
            int died = buryOthers();
            if (kind != 0) closeUp();
            for (int o = 0; o < OBJECTS; o++) {
                if (has(o)) age[o]++;
            }
            ledger.gathering = false;
            return died;
        }

        private void startRow(int kind) {
            rowLength = 0;
            for (int o = 0; o < OBJECTS; o++) inRow[o] = false;
            for (int i = 0; i < ROOTS; i++) putBehind(roots[i]);
            if (kind != 2) return;
            for (int o = 0; o < OBJECTS; o++) {
                if (age[o] >= 2) putBehind(o);
            }
        }

        private void putBehind(int object) {
            if (!has(object) || inRow[object]) return;
            inRow[object] = true;
            row[rowLength] = object;
            rowLength++;
        }

        /** Puts behind what the row holds from a place on: the place up to which that is done. */
        private int follow(int from) {
            int at = from;
            for (; at < rowLength && at < OBJECTS; at++) {
                int object = row[at];
                for (int f = 0; f < fields[object]; f++) {
                    int v = caches.ask(0, memory.touch(address[object] + f));
                    if (v >= HOLDS_OBJECT) putBehind(v - HOLDS_OBJECT);
                }
            }
            return at;
        }

        private int buryOthers() {
            int died = 0;
            for (int o = 0; o < OBJECTS; o++) {
                if (!has(o) || inRow[o]) continue;
                address[o] = NONE;
                died++;
                for (int i = 0; i < WEAK; i++) {
                    if (weak[i] == o) weak[i] = NOBODY;
                }
            }
            ledger.add(DEAD, died);
            ledger.add(THERE, -died);
            return died;
        }

        private void closeUp() {
            int to = 0;
            for (int i = 0; i < rowLength; i++) {
                int object = objectFrom(to);
                if (object == NOBODY) return;
                int from = address[object];
                for (int f = 0; from != to && f < fields[object]; f++) {
                    int v = caches.ask(0, memory.touch(from + f));
                    if (v == LOST) continue;
                    caches.change(0, memory.touch(to + f), v);
                    ledger.add(MOVED, 1);
                }
                address[object] = to;
                to += rounded(fields[object]);
            }
        }
    }
}
