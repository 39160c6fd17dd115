import java.util.NoSuchElementException;

/**
 * Arenas of integer ranges in the manner of Vmem: spans of numbers, cut into segments, taken by best,
 * instant or next fit, by bounds and alignments, imported from arenas below, with caches of small sizes
 * in magazines and slabs above them.
 */
public final class RangeArenas {
    public static final int NONE = -1;

    private static final int FULL = -2;
    private static final int TOP = 1073741824;
    private static final int MOST_ARENAS = 8;
    private static final int MOST_CACHED = 8;
    private static final int GREATEST_QUANTUM = 65536;
    private static final int HOUSE_TAGS = 600;
    private static final int TAGS_FOR_A_CALL = 40;
    private static final int MAGAZINE = 3;
    private static final int DEPOT = 4 * MAGAZINE;
    private static final int MOST_OBJECTS = 32;

    private static final int BEST = 0;
    private static final int INSTANT = 1;
    private static final int NEXT = 2;

    private static final int FREE = 0;
    private static final int BY_TAKE = 1;
    private static final int SLAB = 2;
    private static final int ABOVE = 3;
    private static final int BY_TAKE_WITHIN = 4;

    private final Arena[] arenas;
    private int made;

    public RangeArenas() {
        arenas = new Arena[MOST_ARENAS];
        made = 0;
    }

    public int make(int quantum, int source, int cached) throws IllegalArgumentException {
        if (!isPowerOfTwo(quantum) || quantum > GREATEST_QUANTUM || cached < 0 || cached > MOST_CACHED) {
            throw new IllegalArgumentException("quantum or cached");
        }
        Arena below = arenaOrNull(source);
        if (below == null ? source != NONE : below.quantum < quantum) {
            throw new IllegalArgumentException("source");
        }
        int number = made;
        if (number < 0 || number >= arenas.length) {
            return NONE;
        }
        arenas[number] = new Arena(number, quantum, below, cached);
        made = number + 1;
        return number;
    }

    public int add(int arena, int base, int size) throws IndexOutOfBoundsException, IllegalArgumentException {
        Arena to = arenaAt(arena);
        if (!to.isMultiple(base) || !to.isMultiple(size) || size <= 0) {
            throw new IllegalArgumentException("base or size");
        }
        if (isFull()) {
            return FULL;
        }
        boolean within = base >= 0 && (long) base + size <= TOP;
        if (to.source != null || !within || to.meets(base, size)) {
            return NONE;
        }
        to.open(base, size);
        return 0;
    }

    public int take(int arena, int size, int way, int desk) throws IndexOutOfBoundsException, IllegalArgumentException {
        Arena from = arenaAt(arena);
        if (size <= 0 || way < BEST || way > NEXT || !isDesk(desk)) {
            throw new IllegalArgumentException("size, way or desk");
        }
        if (isFull()) {
            return FULL;
        }
        long whole = from.roundUp(size);
        Cache of = from.cacheFor(whole);
        if (of != null) {
            int loaded = takeLoaded(from, of, desk);
            return loaded != NONE ? loaded : takeLying(from, of);
        }
        Segment taken = obtain(from, whole, way, BY_TAKE, 0);
        return taken == null ? NONE : taken.base;
    }

    public int give(int arena, int base, int size, int desk) throws IndexOutOfBoundsException, IllegalArgumentException {
        Arena to = arenaAt(arena);
        if (size <= 0 || !isDesk(desk)) {
            throw new IllegalArgumentException("size or desk");
        }
        long whole = to.roundUp(size);
        Cache of = to.cacheFor(whole);
        boolean had = of == null ? giveSegment(to, base, whole, BY_TAKE) : giveObject(to, of, base, desk);
        if (!had) {
            throw new IllegalArgumentException("no such range by take");
        }
        return 0;
    }

    public int takeWithin(int arena, int size, int align, int phase, int cross)
            throws IndexOutOfBoundsException, IllegalArgumentException {
        Arena from = arenaAt(arena);
        if (size <= 0 || !from.isUnit(align) || (cross != 0 && !from.isUnit(cross))) {
            throw new IllegalArgumentException("size, align or cross");
        }
        if (phase < 0 || phase >= align || !from.isMultiple(phase)) {
            throw new IllegalArgumentException("phase");
        }
        if (isFull()) {
            return FULL;
        }
        Bounds wanted = new Bounds(from, size, align, phase, cross);
        Segment found = from.leastWithin(wanted);
        if (found == null && sweep(from) > 0) {
            found = from.leastWithin(wanted);
        }
        if (found == null) {
            return NONE;
        }
        return from.carve(found, (int) wanted.baseIn(found), (int) wanted.size).base;
    }

    public int giveWithin(int arena, int base, int size) throws IndexOutOfBoundsException, IllegalArgumentException {
        Arena to = arenaAt(arena);
        if (size <= 0 || !giveSegment(to, base, to.roundUp(size), BY_TAKE_WITHIN)) {
            throw new IllegalArgumentException("no such range by takeWithin");
        }
        return 0;
    }

    public void bounds(int arena, int low, int high) throws IndexOutOfBoundsException, IllegalArgumentException {
        Arena of = arenaAt(arena);
        if (low < 0 || high < low || high > TOP) {
            throw new IllegalArgumentException("low or high");
        }
        of.low = low;
        of.high = high;
    }

    public int purge(int arena) throws IndexOutOfBoundsException {
        return sweep(arenaAt(arena));
    }

    public int tags() {
        return tagsLeft();
    }

    public int count(int arena, int what) throws IndexOutOfBoundsException, NoSuchElementException {
        Arena of = arenaAt(arena);
        switch (what) {
            case 0: return of.quantum;
            case 1: return of.source == null ? NONE : of.source.number;
            case 2: return of.cached;
            case 3: return of.spans;
            case 4: return of.segments;
            case 5: return of.segmentsOf(FREE);
            case 6: return of.numbersOf(FREE);
            case 7: return of.numbersOf(BY_TAKE) + of.numbersOf(BY_TAKE_WITHIN) + of.numbersInHeldObjects();
            case 8: return of.numbersOf(ABOVE);
            case 9: return of.numbersOf(SLAB);
            case 10: return of.segmentsOf(SLAB);
            case 11: return of.rotor;
            case 12: return of.source == null ? 0 : of.spans;
            case 13: return of.failed;
            case 14: return of.purged;
            default: throw new NoSuchElementException("no such count");
        }
    }

    public int segment(int arena, int i, int what) throws IndexOutOfBoundsException, NoSuchElementException {
        Arena of = arenaAt(arena);
        Segment found = of.nth(i);
        if (found == null) {
            throw new NoSuchElementException("no such segment");
        }
        switch (what) {
            case 0: return found.base;
            case 1: return found.size;
            case 2: return found.owner;
            case 3: return found.owner == FREE ? of.listOf(found.size) : NONE;
            case 4: return found.owner == FREE ? of.aheadOf(found) : NONE;
            case 5: return found.spanBase;
            case 6: return found.spanSize;
            case 7: return of.source == null ? 0 : 1;
            default: throw new NoSuchElementException("no such thing of a segment");
        }
    }

    public int cache(int arena, int i, int what) throws IndexOutOfBoundsException, NoSuchElementException {
        Arena of = arenaAt(arena);
        Cache found = of.cacheOf(i);
        if (found == null) {
            throw new NoSuchElementException("no such cache");
        }
        switch (what) {
            case 0: return of.objectsHeld(found);
            case 1: return found.left.loaded.filled;
            case 2: return found.left.spare.filled;
            case 3: return found.right.loaded.filled;
            case 4: return found.right.spare.filled;
            case 5: return found.depot.filled / MAGAZINE;
            case 6: return of.objectsLying(found);
            case 7: return of.slabsOf(found);
            case 8: return found.left.loaded.top();
            case 9: return found.right.loaded.top();
            default: throw new NoSuchElementException("no such thing of a cache");
        }
    }

    public int where(int arena, int number) throws IndexOutOfBoundsException {
        Segment in = arenaAt(arena).holding(number);
        if (in == null) {
            return NONE;
        }
        return in.owner == SLAB && in.isHeld(in.objectAt(number)) ? BY_TAKE : in.owner;
    }

    private static boolean isPowerOfTwo(int n) {
        return n > 0 && (n & (n - 1)) == 0;
    }

    private static boolean isDesk(int desk) {
        return desk == 0 || desk == 1;
    }

    private Arena arenaOrNull(int number) {
        return number >= 0 && number < arenas.length ? arenas[number] : null;
    }

    private Arena arenaAt(int number) {
        Arena found = arenaOrNull(number);
        if (found == null) {
            throw new IndexOutOfBoundsException("no such arena");
        }
        return found;
    }

    private int tagsLeft() {
        int left = HOUSE_TAGS;
        for (int i = 0; i < arenas.length; i++) {
            Arena one = arenas[i];
            if (one != null) {
                left -= one.spans + one.segments;
            }
        }
        return left;
    }

    private boolean isFull() {
        return tagsLeft() < TAGS_FOR_A_CALL;
    }

    /** TO TAKE; null if it fails. Each level asks an arena made earlier, so the depth stays below 8. */
    private static Segment obtain(Arena from, long size, int way, int owner, int depth) {
        Segment found = null;
        if (size <= TOP && depth < MOST_ARENAS) {
            int wanted = (int) size;
            found = from.find(wanted, way);
            if (found == null) {
                found = importSpan(from, wanted, depth);
            }
            if (found == null && sweep(from) > 0) {
                found = from.find(wanted, way);
            }
        }
        if (found == null) {
            from.failed++;
            return null;
        }
        from.occupy(found, (int) size, owner);
        if (way == NEXT) {
            from.rotor = found.base + found.size;
        }
        return found;
    }

    /** A new SPAN, one FREE segment yet, from the SOURCE; null if there is no SOURCE or that fails. */
    private static Segment importSpan(Arena to, int size, int depth) {
        Arena source = to.source;
        if (source == null) {
            return null;
        }
        Segment below = obtain(source, source.roundUp(size), INSTANT, ABOVE, depth + 1);
        return below == null ? null : to.open(below.base, below.size);
    }

    /** TO GIVE BACK; a SPAN that ends by it goes on to the SOURCE, which lies one level lower. */
    private static void release(Arena to, Segment given) {
        Arena arena = to;
        Segment back = given;
        for (int depth = 0; depth < MOST_ARENAS && arena != null && back != null; depth++) {
            arena.free(back);
            Arena source = arena.source;
            if (source == null || back.size != back.spanSize) {
                return;
            }
            arena.close(back);
            back = source.segmentFrom(back.base, back.size, ABOVE);
            arena = source;
        }
    }

    private static boolean giveSegment(Arena to, int base, long size, int owner) {
        Segment had = to.segmentFrom(base, size, owner);
        if (had == null) {
            return false;
        }
        release(to, had);
        return true;
    }

    /** OUT of a cache, by the magazines; NONE if the DESK and the DEPOT have none. */
    private static int takeLoaded(Arena from, Cache of, int desk) {
        Desk at = of.deskAt(desk);
        at.load(of.depot);
        int top = at.loaded.pull();
        Segment home = from.slabHolding(of, top);
        if (home != null) {
            home.hold(home.objectAt(top));
        }
        return top;
    }

    /** OUT of a cache, by the SLABS; NONE if that fails. */
    private static int takeLying(Arena from, Cache of) {
        Segment slab = from.slabWithLying(of);
        if (slab == null) {
            slab = obtain(from, from.slabSize, INSTANT, SLAB, 0);
            if (slab == null) {
                return NONE;
            }
            slab.fill(of.objectSize);
        }
        return slab.holdLowestLying();
    }

    /** INTO a cache; false if no client has such an OBJECT. */
    private static boolean giveObject(Arena to, Cache of, int base, int desk) {
        Segment home = to.slabHolding(of, base);
        if (home == null) {
            return false;
        }
        int object = home.objectAt(base);
        if (!home.isHeld(object) || home.baseOf(object) != base) {
            return false;
        }
        home.drop(object);
        Desk at = of.deskAt(desk);
        at.makeRoom(of.depot);
        if (at.loaded.filled < MAGAZINE) {
            at.loaded.put(base);
        } else {
            home.lay(object);
        }
        return true;
    }

    /** TO PURGE; the number of SLABS that were GIVEN BACK. */
    private static int sweep(Arena arena) {
        arena.purged++;
        int given = 0;
        for (int i = 1; i <= arena.cached; i++) {
            Cache of = arena.cacheOf(i);
            if (of == null) {
                return given;
            }
            layAll(arena, of, of.left.loaded);
            layAll(arena, of, of.left.spare);
            layAll(arena, of, of.right.loaded);
            layAll(arena, of, of.right.spare);
            layAll(arena, of, of.depot);
            // the lowest one is looked for anew each time, as a merge may end the segment that stood behind
            Segment idle = arena.idleSlab(of);
            while (idle != null && given < HOUSE_TAGS) {
                release(arena, idle);
                given++;
                idle = arena.idleSlab(of);
            }
        }
        return given;
    }

    private static void layAll(Arena arena, Cache of, Pile pile) {
        for (int i = 0; i < DEPOT && pile.filled > 0; i++) {
            int base = pile.pull();
            Segment home = arena.slabHolding(of, base);
            if (home != null) {
                home.lay(home.objectAt(base));
            }
        }
    }

    /** A range of an arena, in a chain by bases. It bears its SPAN's range, so that a SPAN needs no object. */
    private static final class Segment {
        int base;
        int size;
        int owner;
        int came;
        final int spanBase;
        final int spanSize;
        Segment before;
        Segment behind;

        /** For a SLAB: the size of its OBJECTS, how many, and a bit for each that lies in it or a client holds. */
        int objectSize;
        int objects;
        int lying;
        int held;

        Segment(int base, int size, int spanBase, int spanSize) {
            this.base = base;
            this.size = size;
            this.spanBase = spanBase;
            this.spanSize = spanSize;
        }

        boolean isFreeFor(long wanted) {
            return owner == FREE && size >= wanted;
        }

        boolean isFreeIn(int span) {
            return owner == FREE && spanBase == span;
        }

        boolean isSlabOf(Cache of) {
            return owner == SLAB && objectSize == of.objectSize;
        }

        void fill(int sizeOfObjects) {
            objectSize = sizeOfObjects;
            objects = sizeOfObjects > 0 ? Math.min(size / sizeOfObjects, MOST_OBJECTS) : 0;
            lying = objects > 0 ? -1 >>> (MOST_OBJECTS - objects) : 0;
            held = 0;
        }

        /** The OBJECT in which a number lies; NONE for the rest behind the last OBJECT. */
        int objectAt(int number) {
            if (objectSize <= 0 || number < base) {
                return NONE;
            }
            int object = (number - base) / objectSize;
            return object < objects ? object : NONE;
        }

        int baseOf(int object) {
            return base + object * objectSize;
        }

        boolean isHeld(int object) {
            return object >= 0 && ((held >>> object) & 1) == 1;
        }

        void hold(int object) {
            if (object >= 0) {
                lying &= ~(1 << object);
                held |= 1 << object;
            }
        }

        void drop(int object) {
            if (object >= 0) {
                held &= ~(1 << object);
            }
        }

        void lay(int object) {
            if (object >= 0) {
                lying |= 1 << object;
            }
        }

        int holdLowestLying() {
            if (lying == 0) {
                return NONE;
            }
            int object = Integer.numberOfTrailingZeros(lying);
            hold(object);
            return baseOf(object);
        }
    }

    /** OBJECTS, the latest on top: a magazine, or a DEPOT as its magazines one on the other. */
    private static final class Pile {
        final int[] bases;
        int filled;

        Pile() {
            bases = new int[DEPOT];
        }

        int top() {
            return filled > 0 && filled <= bases.length ? bases[filled - 1] : NONE;
        }

        void put(int base) {
            if (filled >= 0 && filled < bases.length) {
                bases[filled] = base;
                filled++;
            }
        }

        int pull() {
            int base = top();
            if (base != NONE) {
                filled--;
            }
            return base;
        }

        /** Turns the order round; what goes to the DEPOT and comes again has been turned twice. */
        void moveMagazine(Pile to) {
            for (int i = 0; i < MAGAZINE && filled > 0; i++) {
                to.put(pull());
            }
        }
    }

    /** SPARE is always empty or full: LOADED becomes SPARE only when it is empty (OUT) or full (INTO). */
    private static final class Desk {
        Pile loaded;
        Pile spare;

        Desk() {
            loaded = new Pile();
            spare = new Pile();
        }

        void exchange() {
            Pile was = loaded;
            loaded = spare;
            spare = was;
        }

        void load(Pile depot) {
            if (loaded.filled > 0) {
                return;
            }
            if (spare.filled == 0) {
                depot.moveMagazine(spare);
            }
            exchange();
        }

        void makeRoom(Pile depot) {
            if (loaded.filled < MAGAZINE) {
                return;
            }
            if (spare.filled > 0 && depot.filled < DEPOT) {
                spare.moveMagazine(depot);
            }
            if (spare.filled == 0) {
                exchange();
            }
        }
    }

    private static final class Cache {
        final int objectSize;
        final Desk left;
        final Desk right;
        final Pile depot;

        Cache(int objectSize) {
            this.objectSize = objectSize;
            left = new Desk();
            right = new Desk();
            depot = new Pile();
        }

        Desk deskAt(int desk) {
            return desk == 0 ? left : right;
        }
    }

    /** What takeWithin() asks for. */
    private static final class Bounds {
        final long size;
        final int align;
        final int phase;
        final int cross;
        final int low;
        final int high;

        Bounds(Arena of, int size, int align, int phase, int cross) {
            this.size = of.roundUp(size);
            this.align = align;
            this.phase = phase;
            this.cross = cross;
            low = of.low;
            high = of.high;
        }

        /**
         * The least base in a segment, or NONE. If the first one crosses, so do all up to the next multiple
         * of cross; if the first one behind that crosses too, so do all, as its offset from a multiple is the least.
         */
        long baseIn(Segment in) {
            long at = alignedFrom(Math.max(in.base, low));
            if (crosses(at)) {
                at = alignedFrom(multipleAbove(at));
            }
            long end = Math.min(in.base + in.size, high);
            return crosses(at) || at + size > end ? NONE : at;
        }

        private long alignedFrom(long number) {
            return number + ((phase - number) & (align - 1L));
        }

        private long multipleAbove(long number) {
            return (number | (cross - 1L)) + 1;
        }

        private boolean crosses(long at) {
            return cross != 0 && multipleAbove(at) < at + size;
        }
    }

    /** An arena with the chain of its SEGMENTS; all its SPANS are IMPORTED if it has a SOURCE, else none. */
    private static final class Arena {
        final int number;
        final int quantum;
        final int shift;
        final Arena source;
        final int cached;
        final int slabSize;
        final Cache[] caches;
        Segment first;
        int spans;
        int segments;
        int clock;
        int rotor;
        int low;
        int high;
        int failed;
        int purged;

        Arena(int number, int quantum, Arena source, int cached) {
            this.number = number;
            this.quantum = quantum;
            this.shift = Integer.numberOfTrailingZeros(quantum);
            this.source = source;
            this.cached = cached;
            this.high = TOP;
            int quanta = 1;
            while (quanta < 3 * cached && quanta < MOST_OBJECTS) {
                quanta *= 2;
            }
            slabSize = quanta << shift;
            caches = new Cache[MOST_CACHED];
            for (int i = 0; i < cached && i < caches.length; i++) {
                caches[i] = new Cache((i + 1) << shift);
            }
        }

        boolean isMultiple(int n) {
            return (n & (quantum - 1)) == 0;
        }

        boolean isUnit(int n) {
            return n >= quantum && isPowerOfTwo(n);
        }

        long roundUp(int size) {
            return ((long) size + quantum - 1) & -(long) quantum;
        }

        Cache cacheOf(int quanta) {
            return quanta >= 1 && quanta <= caches.length ? caches[quanta - 1] : null;
        }

        Cache cacheFor(long size) {
            long quanta = size >> shift;
            return quanta > cached ? null : cacheOf((int) quanta);
        }

        int listOf(int size) {
            return 31 - Integer.numberOfLeadingZeros(size >> shift);
        }

        /** The first LIST all of whose segments are large enough. */
        int listFor(int size) {
            return 32 - Integer.numberOfLeadingZeros((size >> shift) - 1);
        }

        int tick() {
            clock++;
            return clock;
        }

        boolean meets(int base, int size) {
            for (Segment s = first; s != null; s = s.behind) {
                if (s.base < base + size && base < s.base + s.size) {
                    return true;
                }
            }
            return false;
        }

        /** A new SPAN, as one FREE segment. */
        Segment open(int base, int size) {
            Segment ahead = null;
            for (Segment s = first; s != null && s.base < base; s = s.behind) {
                ahead = s;
            }
            Segment whole = new Segment(base, size, base, size);
            whole.came = tick();
            link(whole, ahead);
            spans++;
            return whole;
        }

        void close(Segment whole) {
            unlink(whole);
            spans--;
        }

        private void link(Segment fresh, Segment ahead) {
            Segment next = ahead == null ? first : ahead.behind;
            fresh.before = ahead;
            fresh.behind = next;
            if (ahead == null) {
                first = fresh;
            } else {
                ahead.behind = fresh;
            }
            if (next != null) {
                next.before = fresh;
            }
            segments++;
        }

        private void unlink(Segment gone) {
            Segment ahead = gone.before;
            Segment next = gone.behind;
            if (ahead == null) {
                first = next;
            } else {
                ahead.behind = next;
            }
            if (next != null) {
                next.before = ahead;
            }
            segments--;
        }

        /** Cuts a segment; the part behind is a new FREE one. */
        private Segment split(Segment whole, int size) {
            Segment rest = new Segment(whole.base + size, whole.size - size, whole.spanBase, whole.spanSize);
            rest.came = tick();
            whole.size = size;
            link(rest, whole);
            return rest;
        }

        void occupy(Segment found, int size, int owner) {
            if (found.size > size) {
                split(found, size);
            }
            found.owner = owner;
        }

        Segment carve(Segment found, int base, int size) {
            Segment part = found;
            if (base > found.base) {
                part = split(found, base - found.base);
                found.came = tick();
            }
            occupy(part, size, BY_TAKE_WITHIN);
            return part;
        }

        /** The given segment itself grows over its FREE neighbours, so that the caller still has it. */
        void free(Segment back) {
            back.owner = FREE;
            Segment next = back.behind;
            if (next != null && next.isFreeIn(back.spanBase)) {
                back.size += next.size;
                unlink(next);
            }
            Segment ahead = back.before;
            if (ahead != null && ahead.isFreeIn(back.spanBase)) {
                back.base = ahead.base;
                back.size += ahead.size;
                unlink(ahead);
            }
            back.came = tick();
        }

        Segment find(int size, int way) {
            if (way == BEST) {
                return findBest(size);
            }
            return way == INSTANT ? findInstant(size) : findNext(size);
        }

        private Segment findBest(int size) {
            Segment best = null;
            for (Segment s = first; s != null; s = s.behind) {
                if (s.isFreeFor(size) && (best == null || s.size < best.size)) {
                    best = s;
                }
            }
            return best;
        }

        private Segment findInstant(int size) {
            int from = listFor(size);
            Segment found = null;
            for (Segment s = first; s != null; s = s.behind) {
                if (s.owner == FREE && listOf(s.size) >= from && (found == null || isAhead(s, found))) {
                    found = s;
                }
            }
            return found;
        }

        /** Whether a FREE segment is in a lower LIST than another, or ahead of it in the same. */
        private boolean isAhead(Segment one, Segment other) {
            int list = listOf(one.size);
            int otherList = listOf(other.size);
            return list < otherList || (list == otherList && one.came > other.came);
        }

        private Segment findNext(int size) {
            Segment lowest = null;
            for (Segment s = first; s != null; s = s.behind) {
                if (s.isFreeFor(size)) {
                    if (s.base >= rotor) {
                        return s;
                    }
                    if (lowest == null) {
                        lowest = s;
                    }
                }
            }
            return lowest;
        }

        Segment leastWithin(Bounds wanted) {
            Segment least = null;
            for (Segment s = first; s != null; s = s.behind) {
                boolean better = s.isFreeFor(wanted.size) && (least == null || s.size < least.size);
                if (better && wanted.baseIn(s) != NONE) {
                    least = s;
                }
            }
            return least;
        }

        Segment nth(int i) {
            int left = i;
            for (Segment s = first; s != null && left >= 0; s = s.behind) {
                if (left == 0) {
                    return s;
                }
                left--;
            }
            return null;
        }

        Segment holding(int number) {
            for (Segment s = first; s != null; s = s.behind) {
                if (number >= s.base && number - s.base < s.size) {
                    return s;
                }
            }
            return null;
        }

        Segment segmentFrom(int base, long size, int owner) {
            Segment found = holding(base);
            boolean same = found != null && found.base == base && found.size == size && found.owner == owner;
            return same ? found : null;
        }

        Segment slabHolding(Cache of, int base) {
            Segment found = holding(base);
            return found != null && found.isSlabOf(of) ? found : null;
        }

        Segment slabWithLying(Cache of) {
            for (Segment s = first; s != null; s = s.behind) {
                if (s.isSlabOf(of) && s.lying != 0) {
                    return s;
                }
            }
            return null;
        }

        /** The lowest SLAB in which all of its OBJECTS lie. */
        Segment idleSlab(Cache of) {
            for (Segment s = first; s != null; s = s.behind) {
                if (s.isSlabOf(of) && Integer.bitCount(s.lying) == s.objects) {
                    return s;
                }
            }
            return null;
        }

        int aheadOf(Segment one) {
            int list = listOf(one.size);
            int ahead = 0;
            for (Segment s = first; s != null; s = s.behind) {
                if (s.owner == FREE && listOf(s.size) == list && s.came > one.came) {
                    ahead++;
                }
            }
            return ahead;
        }

        int segmentsOf(int owner) {
            int found = 0;
            for (Segment s = first; s != null; s = s.behind) {
                found += s.owner == owner ? 1 : 0;
            }
            return found;
        }

        int numbersOf(int owner) {
            int sum = 0;
            for (Segment s = first; s != null; s = s.behind) {
                sum += s.owner == owner ? s.size : 0;
            }
            return sum;
        }

        int numbersInHeldObjects() {
            int sum = 0;
            for (Segment s = first; s != null; s = s.behind) {
                sum += s.owner == SLAB ? Integer.bitCount(s.held) * s.objectSize : 0;
            }
            return sum;
        }

        int objectsHeld(Cache of) {
            int sum = 0;
            for (Segment s = first; s != null; s = s.behind) {
                sum += s.isSlabOf(of) ? Integer.bitCount(s.held) : 0;
            }
            return sum;
        }

        int objectsLying(Cache of) {
            int sum = 0;
            for (Segment s = first; s != null; s = s.behind) {
                sum += s.isSlabOf(of) ? Integer.bitCount(s.lying) : 0;
            }
            return sum;
        }

        int slabsOf(Cache of) {
            int sum = 0;
            for (Segment s = first; s != null; s = s.behind) {
                sum += s.isSlabOf(of) ? 1 : 0;
            }
            return sum;
        }
    }
}
