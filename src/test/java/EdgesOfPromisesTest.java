/** Promises 1 to 14, sentence by sentence: each boundary case with its neighbours, each refused call. */
public final class EdgesOfPromisesTest extends Checks {

    // ---------------------------------------------------------------- 1 to 3

    private static void newObject() {
        sentence("Promise 1: No arenas");
        int[] numbers = {0, 1, 7, 8, -1, MAX, MIN};
        for (int n : numbers) {
            Watched x = new Watched();
            allCalls(x, n);
            is("tags", x.tags(), 600);
            is("the first is 0", x.make(1, NONE, 0), 0);
        }
        Watched one = one(1, 1, 0, 10);
        Watched other = new Watched();
        allCalls(other, 0);
        is("the first has its arena", one.count(0, 3), 1);
        is("the other makes its own", other.make(4, NONE, 0), 0);
        is("and the first keeps its own", one.count(0, 0), 1);
    }

    private static void allCalls(Watched x, int n) {
        noArena("add", () -> x.add(n, 0, 1));
        noArena("take", () -> x.take(n, 1, 0, 0));
        noArena("give", () -> x.give(n, 0, 1, 0));
        noArena("takeWithin", () -> x.takeWithin(n, 1, 1, 0, 0));
        noArena("giveWithin", () -> x.giveWithin(n, 0, 1));
        noArena("bounds", () -> x.bounds(n, 0, 1));
        noArena("purge", () -> x.purge(n));
        noArena("count", () -> x.count(n, 0));
        noArena("segment", () -> x.segment(n, 0, 0));
        noArena("cache", () -> x.cache(n, 1, 0));
        noArena("where", () -> x.where(n, 0));
    }

    private static void noSuchArena() {
        sentence("Promise 3: IndexOutOfBoundsException: no such arena (as everywhere)");
        for (int made = 1; made <= 8; made++) {
            Watched x = new Watched();
            for (int i = 0; i < made; i++) {
                x.make(1, NONE, 1);
            }
            is("the last one", x.count(made - 1, 3), 0);
            allCalls(x, made);
            allCalls(x, -1);
        }
        Watched x = one(1, 1, 0, 10);
        noArena("and a wrong size to add", () -> x.add(1, 0, 0));
        noArena("and a wrong size to take", () -> x.take(1, 0, 3, 2));
        noArena("and a wrong desk to give", () -> x.give(1, 0, 0, 2));
        noArena("and a wrong align", () -> x.takeWithin(1, 0, 3, 5, 3));
        noArena("and a wrong size to giveWithin", () -> x.giveWithin(1, 0, 0));
        noArena("and wrong bounds", () -> x.bounds(1, 2, 1));
        noArena("and a wrong count", () -> x.count(1, 15));
        noArena("and a wrong segment", () -> x.segment(1, -1, 8));
        noArena("and a wrong cache", () -> x.cache(1, 0, 10));
    }

    private static void makeRefused() {
        sentence("Promise 2: IllegalArgumentException (and nothing is made)");
        Steps before = x -> {
            x.make(8, NONE, 2);
            x.make(4, 0, 1);
        };
        unchanged("make", before, x -> {
            illegal("quantum 0", () -> x.make(0, NONE, 0));
            illegal("quantum 6", () -> x.make(6, NONE, 0));
            illegal("quantum 131072", () -> x.make(131072, NONE, 0));
            illegal("source 2", () -> x.make(4, 2, 0));
            illegal("source -2", () -> x.make(4, -2, 0));
            illegal("a lesser source", () -> x.make(8, 1, 0));
            illegal("cached -1", () -> x.make(4, 0, -1));
            illegal("cached 9", () -> x.make(4, 0, 9));
        });
        Watched x = new Watched();
        for (int i = 0; i < 8; i++) {
            is("arena " + i, x.make(4, NONE, 0), i);
        }
        is("there are 8", x.make(4, NONE, 0), NONE);
        illegal("a wrong quantum, though there are 8", () -> x.make(3, NONE, 0));
        illegal("a wrong source, though there are 8", () -> x.make(4, 8, 0));
        illegal("a lesser source, though there are 8", () -> x.make(8, 7, 0));
        illegal("a wrong cached, though there are 8", () -> x.make(4, NONE, 9));
    }

    private static void addRefused() {
        sentence("Promise 3: IllegalArgumentException: base or size are no multiples of the QUANTUM, size not above 0");
        Steps before = x -> {
            x.make(8, NONE, 0);
            x.add(0, 80, 80);
            x.make(8, 0, 0);
        };
        unchanged("add", before, x -> {
            for (int off : new int[] {1, 4, 7, -1, -4, -7}) {
                illegal("base " + (800 + off), () -> x.add(0, 800 + off, 8));
                illegal("size " + (16 + off), () -> x.add(0, 800, 16 + off));
                illegal("both", () -> x.add(0, 800 + off, 16 + off));
            }
            illegal("size 0", () -> x.add(0, 800, 0));
            illegal("size -8", () -> x.add(0, 800, -8));
            illegal("size MIN, a multiple", () -> x.add(0, 800, MIN));
            illegal("base MAX", () -> x.add(0, MAX, 8));
            illegal("wrong, and below 0", () -> x.add(0, -4, 8));
            illegal("wrong, and meets another", () -> x.add(0, 84, 8));
            illegal("wrong, in an arena with a SOURCE", () -> x.add(1, 804, 8));
        });
        is("one quantum", one(8, 0).add(0, 0, 8), 0);
        is("one number", one(1, 0).add(0, 0, 1), 0);
        illegal("less than a quantum", () -> one(65536, 0).add(0, 0, 32768));
    }

    private static void addMeets() {
        sentence("Promise 3: -1: it meets another one of the arena");
        int[][] due = {{80, 8, 0}, {80, 16, 0}, {80, 24, -1}, {88, 8, 0}, {88, 16, -1}, {96, 8, -1}, {96, 16, -1},
            {88, 24, -1}, {88, 32, -1}, {104, 8, -1}, {104, 16, -1}, {112, 8, 0}, {112, 80, 0}, {120, 8, 0}, {0, 96, 0},
            {0, 104, -1}, {0, 800, -1}};
        for (int[] d : due) {
            Watched x = one(8, 0, 96, 16);
            is("free: " + d[0] + ", " + d[1], x.add(0, d[0], d[1]), d[2]);
            is("spans", x.count(0, 3), d[2] == 0 ? 2 : 1);
            Watched y = one(8, 0, 96, 16);
            y.take(0, 16, BEST, 0);
            is("taken: " + d[0] + ", " + d[1], y.add(0, d[0], d[1]), d[2]);
            Watched z = one(8, 0, 96, 16);
            z.make(8, NONE, 0);
            is("of the arena, not of another: " + d[0], z.add(1, d[0], d[1]), 0);
        }
        Watched between = one(8, 0, 0, 16, 32, 16);
        is("over the first", between.add(0, 8, 24), NONE);
        is("over the second", between.add(0, 16, 24), NONE);
        is("just between", between.add(0, 16, 16), 0);
        segments(between, 0, 0, 16, 0, 16, 16, 0, 32, 16, 0);

        sentence("Promise 3: -1: the arena has a SOURCE");
        Watched x = one(8, 0, 0, 80);
        x.make(8, 0, 0);
        is("a SOURCE", x.add(1, 0, 8), NONE);
        is("a SOURCE, far off", x.add(1, 800, 8), NONE);
        is("nothing was added", x.count(1, 3) + x.count(1, 4), 0);
        is("tags", x.tags(), 598);
        Steps before = y -> {
            y.make(8, NONE, 0);
            y.add(0, 80, 80);
        };
        unchanged("-1", before, y -> {
            is("meets", y.add(0, 80, 8), NONE);
            is("below", y.add(0, -8, 8), NONE);
            is("above", y.add(0, TOP, 8), NONE);
        });
    }

    // ---------------------------------------------------------------- 4 and 5

    private static void takeRefused() {
        sentence("Promise 4: IllegalArgumentException: size is not above 0, way not 0 to 2, desk not 0 or 1");
        Steps before = x -> {
            x.make(4, NONE, 2);
            x.add(0, 0, 80);
            x.take(0, 5, BEST, 0);
            x.give(0, 0, 8, 1);
        };
        unchanged("take", before, x -> {
            for (int size : new int[] {4, 8, 12}) {
                for (int bad : new int[] {-1, 3, 4, MAX, MIN}) {
                    illegal("way " + bad + " of size " + size, () -> x.take(0, size, bad, 0));
                }
                for (int bad : new int[] {-1, 2, 3, MAX, MIN}) {
                    illegal("desk " + bad + " of size " + size, () -> x.take(0, size, 0, bad));
                }
            }
            for (int size : new int[] {0, -1, -4, -8, MIN}) {
                illegal("size " + size, () -> x.take(0, size, 0, 0));
            }
            illegal("wrong, and too large", () -> x.take(0, MAX, 3, 0));
        });
        for (int way = 0; way < 3; way++) {
            for (int desk = 0; desk < 2; desk++) {
                is("size 1, way " + way + ", desk " + desk, one(1, 0, 5, 1).take(0, 1, way, desk), 5);
                is("an object, way " + way + ", desk " + desk, one(1, 1, 5, 4).take(0, 1, way, desk), 5);
            }
        }
    }

    /**
     * Arena 0: a client has 0 .. 11 and, by bounds, 16 .. 27, arena 2 has 28 .. 35. Arena 1: 0 .. 63 and 64 .. 127 are
     * SLABS of 1 and of 3 quanta, of which a client has 0, 64 and 76; it has 128 .. 143 as well.
     */
    private static void manyRanges(Watched x) {
        x.make(4, NONE, 0);
        x.make(4, NONE, 3);
        x.make(1, 0, 0);
        x.add(0, 0, 160);
        is("a", x.take(0, 10, BEST, 0), 0);
        is("b", x.takeWithin(0, 10, 16, 0, 0), 16);
        is("above", x.take(2, 8, BEST, 0), 28);
        x.add(1, 0, 256);
        is("an object of 1", x.take(1, 4, BEST, 0), 0);
        is("an object of 3", x.take(1, 12, BEST, 0), 64);
        is("an object of 3 again", x.take(1, 12, BEST, 1), 76);
        is("a segment", x.take(1, 16, BEST, 0), 128);
    }

    private static void giveRefused() {
        sentence("Promise 5: IllegalArgumentException: it has no such range by take() (nothing changes)");
        unchanged("give", EdgesOfPromisesTest::manyRanges, x -> {
            for (int base : new int[] {-1, 1, -4, 4, 8, 12, 160, MAX, MIN, TOP}) {
                illegal("base " + base, () -> x.give(0, base, 12, 0));
            }
            for (int size : new int[] {8, 13, 16, 0, -1, -12, MAX, MIN}) {
                illegal("size " + size, () -> x.give(0, 0, size, 0));
            }
            for (int desk : new int[] {-1, 2, MAX, MIN}) {
                illegal("desk " + desk, () -> x.give(0, 0, 12, desk));
                illegal("desk " + desk + " of an object", () -> x.give(1, 64, 12, desk));
            }
            illegal("by takeWithin()", () -> x.give(0, 16, 12, 0));
            illegal("a free one", () -> x.give(0, 12, 4, 0));
            illegal("an arena's above", () -> x.give(0, 28, 8, 0));
            illegal("another arena's", () -> x.give(1, 0, 12, 0));
            illegal("no SPAN's", () -> x.give(0, 400, 12, 0));
        });
        unchanged("give of an object", EdgesOfPromisesTest::manyRanges, x -> {
            illegal("one that lies", () -> x.give(1, 88, 12, 0));
            illegal("one that lies, of 1", () -> x.give(1, 4, 4, 0));
            illegal("a quantum into it", () -> x.give(1, 68, 12, 0));
            illegal("one number into it", () -> x.give(1, 65, 12, 0));
            illegal("one number ahead of it", () -> x.give(1, 63, 12, 0));
            illegal("as one of 2", () -> x.give(1, 64, 8, 0));
            illegal("as one of 1", () -> x.give(1, 64, 4, 0));
            illegal("as one of 4", () -> x.give(1, 64, 16, 0));
            illegal("two at once", () -> x.give(1, 64, 24, 0));
            illegal("the whole SLAB", () -> x.give(1, 64, 64, 0));
            illegal("behind the last OBJECT", () -> x.give(1, 124, 4, 0));
            illegal("behind the last OBJECT, as one of 3", () -> x.give(1, 124, 12, 0));
            illegal("a segment as an OBJECT", () -> x.give(1, 128, 12, 0));
            illegal("by giveWithin()", () -> x.giveWithin(1, 64, 12));
        });
    }

    private static void giveOnce() {
        sentence("Promise 5: What a client had by take() is given back: 0");
        Watched x = new Watched();
        manyRanges(x);
        is("a segment", x.give(0, 0, 9, 1), 0);
        illegal("a segment twice", () -> x.give(0, 0, 9, 1));
        is("an object at the other desk", x.give(1, 64, 9, 1), 0);
        illegal("an object twice", () -> x.give(1, 64, 9, 1));
        illegal("an object twice, at the other desk", () -> x.give(1, 64, 9, 0));
        caches(x, 1, 3, 1, 0, 0, 1, 0, 0, 3, 1, NONE, 64);
        is("the other object", x.give(1, 76, 12, 1), 0);
        is("purged", x.purge(1), 1);
        illegal("its SLAB is no more", () -> x.give(1, 64, 12, 0));
        is("above", x.give(2, 28, 8, 0), 0);
        illegal("its SPAN is no more", () -> x.give(2, 28, 8, 0));
        Watched y = one(1, 1, 0, 4);
        is("taken", y.take(0, 1, BEST, 0), 0);
        give(y, 0, 0, 1);
        is("taken again", y.take(0, 1, BEST, 0), 0);
        give(y, 0, 0, 1);
    }

    // ---------------------------------------------------------------- 6 and 7

    private static void withinAlignAndPhase() {
        sentence("Promise 6: the base a is the least with a MOD align = phase");
        for (int align : new int[] {4, 8, 16, 64}) {
            for (int phase = 0; phase < align; phase += 4) {
                for (int base = 60; base <= 68; base += 4) {
                    int due = base;
                    while (due % align != phase) {
                        due += 4;
                    }
                    String what = base + ": " + phase + " of " + align;
                    is(what, one(4, 0, base, 200).takeWithin(0, 4, align, phase, 0), due);
                    int need = due - base + 4;
                    is(what + ", just so", one(4, 0, base, need).takeWithin(0, 4, align, phase, 0), due);
                    if (need > 4) {
                        is(what + ", too small", one(4, 0, base, need - 4).takeWithin(0, 4, align, phase, 0), NONE);
                    }
                }
            }
        }
        Watched x = one(1, 0, 0, TOP);
        is("the greatest align and phase", x.takeWithin(0, 1, TOP, TOP - 1, 0), TOP - 1);
        is("no second one", x.takeWithin(0, 1, TOP, TOP - 1, 0), NONE);
        is("one below", x.takeWithin(0, 1, TOP, TOP - 2, 0), TOP - 2);
        is("from 0", x.takeWithin(0, 1, TOP, 0, TOP), 0);
    }

    private static void withinLowAndHigh() {
        sentence("Promise 6: LOW <= a");
        int[][] lows = {{0, 32}, {31, 32}, {32, 32}, {33, 40}, {39, 40}, {40, 40}, {41, 48}, {72, 72}, {73, NONE}};
        for (int[] d : lows) {
            Watched x = one(8, 0, 32, 48);
            x.bounds(0, d[0], TOP);
            is("LOW " + d[0], x.takeWithin(0, 8, 8, 0, 0), d[1]);
        }
        sentence("Promise 6: a + size <= HIGH");
        int[][] highs = {{TOP, 32}, {80, 32}, {57, 32}, {56, 32}, {55, NONE}, {54, NONE}, {32, NONE}, {0, NONE}};
        for (int[] d : highs) {
            Watched x = one(8, 0, 32, 48);
            x.bounds(0, 0, d[0]);
            is("HIGH " + d[0], x.takeWithin(0, 24, 8, 0, 0), d[1]);
            Watched y = one(8, 0, 32, 48);
            y.bounds(0, 0, d[0]);
            is("HIGH " + d[0] + ", size rounded up", y.takeWithin(0, 17, 8, 0, 0), d[1]);
        }
        Watched both = one(8, 0, 32, 48);
        both.bounds(0, 40, 64);
        is("more than between", both.takeWithin(0, 25, 8, 0, 0), NONE);
        is("just between", both.takeWithin(0, 24, 8, 0, 0), 40);
        segments(both, 0, 32, 8, 0, 40, 24, 4, 64, 16, 0);
        Watched least = one(1, 0, 0, 10, 20, 20, 50, 30);
        least.bounds(0, 25, 60);
        is("the least segment in which there is one", least.takeWithin(0, 10, 1, 0, 0), 25);
        is("then the other, up to HIGH", least.takeWithin(0, 10, 1, 0, 0), 50);
        is("then none", least.takeWithin(0, 6, 1, 0, 0), NONE);

        sentence("Promise 6: LOW and HIGH at first 0 and 1073741824");
        Watched all = one(1, 0, 0, TOP);
        is("all numbers", all.takeWithin(0, TOP, 1, 0, 0), 0);
        is("the last number", one(1, 0, TOP - 1, 1).takeWithin(0, 1, 1, 0, 0), TOP - 1);
        is("one more than all", one(1, 0, 0, TOP).takeWithin(0, TOP + 1, 1, 0, 0), NONE);
        is("MAX", one(1, 0, 0, TOP).takeWithin(0, MAX, 1, 0, 0), NONE);
    }

    private static void withinCross() {
        sentence("Promise 6: no multiple of cross (if cross is not 0) above a and below a + size");
        // a is at least LOW: from where on, size, cross, base
        int[][] due = {{15, 1, 16, 15}, {15, 2, 16, 16}, {16, 1, 16, 16}, {16, 16, 16, 16}, {16, 17, 16, NONE},
            {17, 15, 16, 17}, {17, 16, 16, 32}, {1, 15, 16, 1}, {1, 16, 16, 16}, {2, 15, 16, 16}, {0, 16, 16, 0},
            {0, 17, 16, NONE}, {0, 17, 32, 0}, {16, 16, 32, 16}, {16, 17, 32, 32}, {3, 1, 1, 3}, {3, 2, 1, NONE},
            {3, 2, 2, 4}, {3, 100, 0, 3}, {63, 64, 64, 64}, {64, 64, 64, 64}, {65, 63, 64, 65}, {1, 127, 128, 1},
            {1, 128, 128, NONE}, {0, 128, 128, 0}, {0, 128, TOP, 0}};
        for (int[] d : due) {
            Watched x = one(1, 0, 0, 128);
            x.bounds(0, d[0], TOP);
            is("from " + d[0] + ", " + d[1] + " not over " + d[2], x.takeWithin(0, d[1], 1, 0, d[2]), d[3]);
        }
        sentence("Promise 6: cross with align and phase");
        int[][] aligned = {{8, 4, 4, 8, 4}, {8, 4, 5, 8, NONE}, {8, 5, 3, 8, 5}, {8, 5, 4, 8, NONE}, {4, 3, 5, 8, 3},
            {4, 3, 6, 8, NONE}, {4, 1, 4, 8, 1}, {4, 1, 7, 8, 1}, {4, 1, 8, 8, NONE}, {32, 6, 2, 8, 6},
            {32, 6, 3, 8, NONE}, {32, 12, 4, 8, 12}, {32, 12, 5, 8, NONE}};
        for (int[] d : aligned) {
            is(d[1] + " of " + d[0] + ", " + d[2] + " not over " + d[3],
                one(1, 0, 0, 128).takeWithin(0, d[2], d[0], d[1], d[3]), d[4]);
        }
        Watched x = one(1, 0, 6, 20);
        is("6 would go over 8: moved behind it, then to the phase", x.takeWithin(0, 4, 4, 2, 8), 10);
    }

    private static void withinLeastSegment() {
        sentence("Promise 6: within the least FREE segment in which there is such one (of several the lowest)");
        Watched x = one(1, 0, 100, 12, 0, 10, 40, 10, 60, 9, 80, 11);
        is("9 is too small by one, 10 twice: the lowest", x.takeWithin(0, 10, 1, 0, 0), 0);
        is("the other", x.takeWithin(0, 10, 1, 0, 0), 40);
        is("11", x.takeWithin(0, 10, 1, 0, 0), 80);
        is("12", x.takeWithin(0, 10, 1, 0, 0), 100);
        is("none", x.takeWithin(0, 10, 1, 0, 0), NONE);
        Watched y = one(1, 0, 0, 30, 41, 10, 61, 9);
        is("none of 8 from 61 or 41 at a multiple of 4, though they are less", y.takeWithin(0, 8, 4, 0, 0), 0);
        is("7 from 44", y.takeWithin(0, 7, 4, 0, 0), 44);
        Watched taken = one(1, 0, 0, 10, 40, 20);
        taken.take(0, 10, BEST, 0);
        is("a TAKEN one is none", taken.takeWithin(0, 10, 1, 0, 0), 40);

        sentence("Promise 6: What lies ahead of it, and (as one that came later) behind it, is FREE");
        Watched mid = one(4, 0, 0, 60);
        is("a midst", mid.takeWithin(0, 20, 32, 20, 0), 20);
        segments(mid, 0, 0, 20, 0, 20, 20, 4, 40, 20, 0);
        ahead(mid, 0, 1, NONE, 0);
        Watched end = one(4, 0, 0, 60);
        is("the end", end.takeWithin(0, 40, 32, 20, 0), 20);
        segments(end, 0, 0, 20, 0, 20, 40, 4);
        Watched begin = one(4, 0, 0, 60);
        is("the beginning", begin.takeWithin(0, 40, 4, 0, 0), 0);
        segments(begin, 0, 0, 40, 4, 40, 20, 0);
        Watched whole = one(4, 0, 0, 60);
        is("the whole", whole.takeWithin(0, 60, 4, 0, 0), 0);
        segments(whole, 0, 0, 60, 4);
        Watched quanta = one(4, 0, 0, 60);
        is("a quantum on each side", quanta.takeWithin(0, 52, 32, 4, 0), 4);
        segments(quanta, 0, 0, 4, 0, 4, 52, 4, 56, 4, 0);
    }

    private static Watched idleSlab(int span) {
        Watched x = one(1, 1, 0, span);
        x.take(0, 1, BEST, 0);
        x.give(0, 0, 1, 0);
        return x;
    }

    private static void withinPurges() {
        sentence("Promise 6: Without one the arena is PURGED, and it is tried again if that GAVE BACK a segment; then -1");
        Watched room = idleSlab(16);
        is("12 are free", room.takeWithin(0, 12, 1, 0, 0), 4);
        is("not purged", room.count(0, 14), 0);
        Watched more = idleSlab(16);
        is("13 need the slab", more.takeWithin(0, 13, 1, 0, 0), 0);
        is("purged once", more.count(0, 14), 1);
        Watched aligned = idleSlab(16);
        is("8 from 0 on need the slab", aligned.takeWithin(0, 8, 16, 0, 0), 0);
        Watched tooMuch = idleSlab(16);
        is("17 are too many", tooMuch.takeWithin(0, 17, 1, 0, 0), NONE);
        is("purged once", tooMuch.count(0, 14), 1);
        is("the slab was given back", tooMuch.count(0, 10), 0);
        is("no failing TO TAKE", tooMuch.count(0, 13), 0);
        is("above all numbers", tooMuch.takeWithin(0, TOP + 1, 1, 0, 0), NONE);
        is("purged for that too", tooMuch.count(0, 14), 2);
        Watched held = one(1, 1, 0, 16);
        held.take(0, 1, BEST, 0);
        is("an object is held: nothing was given back", held.takeWithin(0, 13, 1, 0, 0), NONE);
        is("purged once", held.count(0, 14), 1);
        is("no caches", one(1, 0, 0, 16).takeWithin(0, 17, 1, 0, 0), NONE);
        is("no SPANS", one(1, 0).takeWithin(0, 1, 1, 0, 0), NONE);

        sentence("Promise 6: No SOURCE is asked");
        Watched above = one(8, 0, 0, 64);
        above.make(4, 0, 0);
        is("an empty arena with a SOURCE", above.takeWithin(1, 4, 4, 0, 0), NONE);
        failedAndPurged("its source", above, 0, 0, 0);
        failedAndPurged("itself", above, 1, 0, 1);
        is("4 of 8 are IMPORTED", above.take(1, 4, BEST, 0), 0);
        is("the other 4", above.takeWithin(1, 4, 4, 0, 0), 4);
        is("no more", above.takeWithin(1, 4, 4, 0, 0), NONE);
        is("one SPAN", above.count(1, 12), 1);
    }

    private static void withinRefused() {
        sentence("Promise 6: IllegalArgumentException: size, align, cross, phase");
        Steps before = x -> {
            x.make(8, NONE, 0);
            x.add(0, 0, 800);
            x.takeWithin(0, 16, 64, 8, 0);
        };
        unchanged("takeWithin", before, x -> {
            for (int size : new int[] {0, -1, -8, MIN}) {
                illegal("size " + size, () -> x.takeWithin(0, size, 8, 0, 0));
            }
            for (int align : new int[] {0, 1, 4, 7, 9, 12, 15, 17, 24, -8, MAX, MIN}) {
                illegal("align " + align, () -> x.takeWithin(0, 8, align, 0, 0));
            }
            for (int cross : new int[] {1, 4, 7, 9, 12, 15, 17, 24, -8, MAX, MIN}) {
                illegal("cross " + cross, () -> x.takeWithin(0, 8, 8, 0, cross));
            }
            for (int phase : new int[] {-8, -1, 1, 4, 7, 9, 31, 32, 33, 40, MAX, MIN}) {
                illegal("phase " + phase, () -> x.takeWithin(0, 8, 32, phase, 0));
            }
            illegal("phase 8 of 8", () -> x.takeWithin(0, 8, 8, 8, 0));
            illegal("a wrong phase, and too large", () -> x.takeWithin(0, MAX, 8, 8, 0));
        });
        for (int phase : new int[] {-2, -1, 4, 5}) {
            illegal("phase " + phase + " of 4, each number a multiple of the QUANTUM",
                () -> one(1, 0, 0, 80).takeWithin(0, 1, 4, phase, 0));
        }
        is("phase is the last below align", one(1, 0, 0, 80).takeWithin(0, 1, 4, 3, 0), 3);
        is("align and cross are the QUANTUM", one(8, 0, 80, 8).takeWithin(0, 1, 8, 0, 8), 80);
        is("align is 1", one(1, 0, 80, 8).takeWithin(0, 1, 1, 0, 1), 80);
        is("phase is a QUANTUM below align", one(8, 0, 80, 80).takeWithin(0, 1, 32, 24, 0), 88);
        is("cross is the greatest", one(8, 0, 80, 80).takeWithin(0, 1, 8, 0, TOP), 80);
        is("align is the greatest", one(8, 0, 80, 80).takeWithin(0, 1, TOP, 88, 0), 88);
    }

    private static void giveWithin() {
        sentence("Promise 7: IllegalArgumentException: it has no such range by takeWithin() (nothing changes)");
        unchanged("giveWithin", EdgesOfPromisesTest::manyRanges, x -> {
            for (int base : new int[] {15, 17, 12, 20, 28, -16, MAX, MIN, TOP}) {
                illegal("base " + base, () -> x.giveWithin(0, base, 12));
            }
            for (int size : new int[] {8, 13, 16, 0, -1, -12, MAX, MIN}) {
                illegal("size " + size, () -> x.giveWithin(0, 16, size));
            }
            illegal("by take()", () -> x.giveWithin(0, 0, 12));
            illegal("a free one", () -> x.giveWithin(0, 12, 4));
            illegal("an arena's above", () -> x.giveWithin(0, 28, 8));
            illegal("another arena's", () -> x.giveWithin(1, 16, 12));
            illegal("an OBJECT", () -> x.giveWithin(1, 64, 12));
            illegal("a SLAB", () -> x.giveWithin(1, 64, 64));
        });
        sentence("Promise 7: What a client had by takeWithin() is GIVEN BACK: 0");
        for (int size = 9; size <= 12; size++) {
            int told = size;
            Watched x = new Watched();
            manyRanges(x);
            is("size " + size, x.giveWithin(0, 16, size), 0);
            illegal("twice", () -> x.giveWithin(0, 16, told));
            segments(x, 0, 0, 12, 1, 12, 16, 0, 28, 8, 3, 36, 124, 0);
        }
        Watched cached = one(1, 8, 0, 64);
        is("a cached size", cached.takeWithin(0, 1, 1, 0, 0), 0);
        is("has no SLAB", cached.count(0, 10), 0);
        is("is no OBJECT", cached.cache(0, 1, 0), 0);
        illegal("nor is it given to a cache", () -> cached.give(0, 0, 1, 0));
        is("given", cached.giveWithin(0, 0, 1), 0);
        segments(cached, 0, 0, 64, 0);
    }

    // ---------------------------------------------------------------- 8 to 10

    private static void bounds() {
        sentence("Promise 8: IllegalArgumentException: low is below 0, high below low or above 1073741824");
        int[][] wrong = {{-1, 0}, {-1, 10}, {-1, TOP}, {MIN, 0}, {MIN, MAX}, {1, 0}, {10, 9}, {TOP, TOP - 1}, {0, -1},
            {0, MIN}, {0, TOP + 1}, {TOP, TOP + 1}, {TOP + 1, TOP + 1}, {TOP + 1, TOP}, {0, MAX}, {MAX, MAX}};
        for (int[] w : wrong) {
            Watched x = one(1, 0, 0, 100);
            x.bounds(0, 20, 30);
            illegal(w[0] + " to " + w[1], () -> x.bounds(0, w[0], w[1]));
            is("the old ones stay: HIGH", x.takeWithin(0, 11, 1, 0, 0), NONE);
            is("the old ones stay: LOW", x.takeWithin(0, 10, 1, 0, 0), 20);
        }
        int[][] fine = {{0, 0, NONE}, {0, 1, 0}, {1, 1, NONE}, {10, 10, NONE}, {10, 11, 10}, {TOP - 1, TOP, TOP - 1},
            {TOP, TOP, NONE}, {0, TOP, 0}, {0, TOP - 1, 0}};
        for (int[] f : fine) {
            Watched x = one(1, 0, 0, TOP);
            x.bounds(0, f[0], f[1]);
            is("one number in " + f[0] + " to " + f[1], x.takeWithin(0, 1, 1, 0, 0), f[2]);
        }
        sentence("Promise 8: LOW and HIGH for takeWithin() from now on");
        Watched x = one(1, 1, 0, 100);
        x.make(1, 0, 0);
        x.bounds(0, 50, 60);
        is("not for take()", x.take(0, 5, BEST, 0), 0);
        is("not for SLABS", x.take(0, 1, BEST, 0), 5);
        is("not for arenas above", x.take(1, 5, BEST, 0), 9);
        is("not for where()", x.where(0, 70), 0);
        is("for takeWithin()", x.takeWithin(0, 5, 1, 0, 0), 50);
        is("again", x.takeWithin(0, 5, 1, 0, 0), 55);
        is("no more", x.takeWithin(0, 1, 1, 0, 0), NONE);
        x.bounds(0, 60, 61);
        is("from now on", x.takeWithin(0, 1, 1, 0, 0), 60);
        is("not for giveWithin()", x.giveWithin(0, 50, 5), 0);
    }

    private static void purge() {
        sentence("Promise 9: An arena is PURGED: how many SLABS were GIVEN BACK");
        Watched x = one(1, 1, 0, 64);
        is("no SLABS", x.purge(0), 0);
        for (int n = 0; n < 12; n++) {
            x.take(0, 1, BEST, 0);
        }
        is("all held", x.purge(0), 0);
        for (int n = 0; n < 4; n++) {
            x.give(0, n, 1, 0);
        }
        is("one of three", x.purge(0), 1);
        for (int n = 4; n < 11; n++) {
            x.give(0, n, 1, 0);
        }
        is("one of two", x.purge(0), 1);
        x.give(0, 11, 1, 0);
        is("the last", x.purge(0), 1);
        is("none any more", x.purge(0), 0);
        is("purged", x.count(0, 14), 6);
        is("never failed", x.count(0, 13), 0);
        for (int n = 0; n < 12; n++) {
            x.take(0, 1, BEST, 0);
        }
        for (int n = 0; n < 12; n++) {
            x.give(0, n, 1, 1);
        }
        is("three at once", x.purge(0), 3);
        Watched two = one(1, 1, 0, 64);
        two.make(1, NONE, 1);
        two.add(1, 0, 64);
        two.take(0, 1, BEST, 0);
        two.take(1, 1, BEST, 0);
        two.give(0, 0, 1, 0);
        two.give(1, 0, 1, 0);
        is("an arena", two.purge(1), 1);
        is("not the other", two.count(0, 10), 1);
        is("nor is that counted", two.count(0, 14), 0);
    }

    private static void tags() {
        sentence("Promise 10: TAGS that are left");
        Watched x = one(1, 0);
        for (int n = 0; n < 280; n++) {
            x.add(0, 2 * n, 1);
        }
        is("280 SPANS", x.tags(), 40);
        is("one more", x.add(0, 1000, 1), 0);
        is("281 SPANS", x.tags(), 38);
        is("no more", x.add(0, 2000, 1), FULL);
        is("as many", x.tags(), 38);
        Watched least = chain(8);
        fillTo(least, 8, 40);
        is("the last take", least.take(7, 1, BEST, 0) >= 0 ? 0 : 1, 0);
        is("15 at once", least.tags(), 25);
        is("no more", least.take(7, 1, BEST, 0), FULL);
    }

    // ---------------------------------------------------------------- 11 to 14

    private static void count() {
        sentence("Promise 11: NoSuchElementException: another what");
        Watched x = one(4, 1, 0, 40);
        for (int what : new int[] {-2, -1, 15, 16, MAX, MIN}) {
            noSuch("what " + what, () -> x.count(0, what));
        }
        is("the first what", x.count(0, 0), 4);
        is("the last what", x.count(0, 14), 0);

        sentence("Promise 11: each what, where it is none and where it is all");
        counts(one(16, 0), 0, 16, NONE, 0, 0, 0, 0, 0, 0, 0, 0, 0, 0, 0, 0, 0);
        counts(one(1, 0, 0, TOP), 0, 1, NONE, 0, 1, 1, 1, TOP, 0, 0, 0, 0, 0, 0, 0, 0);
        Watched held = one(1, 0, 0, TOP);
        held.take(0, TOP, NEXT, 0);
        counts(held, 0, 1, NONE, 0, 1, 1, 0, 0, TOP, 0, 0, 0, TOP, 0, 0, 0);
        Watched within = one(1, 0, 0, TOP);
        within.takeWithin(0, TOP, 1, 0, 0);
        counts(within, 0, 1, NONE, 0, 1, 1, 0, 0, TOP, 0, 0, 0, 0, 0, 0, 0);
        Watched above = one(1, 0, 0, TOP);
        above.make(1, 0, 0);
        above.take(1, TOP, BEST, 0);
        counts(above, 0, 1, NONE, 0, 1, 1, 0, 0, 0, TOP, 0, 0, 0, 0, 0, 0);
        counts(above, 1, 1, 0, 0, 1, 1, 0, 0, TOP, 0, 0, 0, 0, 1, 0, 0);
        Watched slab = one(2, 2, 0, 16);
        slab.take(0, 4, BEST, 0);
        counts(slab, 0, 2, NONE, 2, 1, 1, 0, 0, 4, 0, 16, 1, 0, 0, 0, 0);
        slab.give(0, 0, 4, 0);
        counts(slab, 0, 2, NONE, 2, 1, 1, 0, 0, 0, 0, 16, 1, 0, 0, 0, 0);
        slab.purge(0);
        counts(slab, 0, 2, NONE, 2, 1, 1, 1, 16, 0, 0, 0, 0, 0, 0, 0, 1);

        sentence("Promise 11: 13 how often TO TAKE failed (-1), of its own and for arenas above");
        Watched f = one(1, 1, 0, 2);
        f.make(1, 0, 1);
        f.make(1, 0, 0);
        f.take(0, 2, BEST, 0);
        is("nothing failed", f.count(0, 13), 0);
        f.take(0, 2, BEST, 0);
        is("its own", f.count(0, 13), 1);
        f.take(0, 1, BEST, 0);
        is("its own SLAB", f.count(0, 13), 2);
        f.take(1, 2, BEST, 0);
        is("for an arena above", f.count(0, 13) * 10 + f.count(1, 13), 31);
        f.take(1, 1, BEST, 0);
        is("for a SLAB of an arena above", f.count(0, 13) * 10 + f.count(1, 13), 42);
        f.take(2, 1, BEST, 0);
        is("for another arena above", f.count(0, 13) * 10 + f.count(2, 13), 51);
        is("not the other's", f.count(1, 13), 2);
        f.takeWithin(0, 1, 1, 0, 0);
        f.add(0, 0, 1);
        illegal("refused", () -> f.take(0, 0, BEST, 0));
        is("no other call", f.count(0, 13), 5);
    }

    private static void segment() {
        sentence("Promise 12: NoSuchElementException: there is none, or another what");
        Watched empty = one(4, 0);
        noSuch("none at all", () -> empty.segment(0, 0, 0));
        Watched x = one(4, 0, 0, 40, 80, 40);
        x.take(0, 8, BEST, 0);
        for (int i : new int[] {-1, 3, 4, MAX, MIN}) {
            for (int what = 0; what < 8; what++) {
                int told = what;
                noSuch("segment " + i, () -> x.segment(0, i, told));
            }
        }
        for (int what : new int[] {-2, -1, 8, 9, MAX, MIN}) {
            noSuch("what " + what, () -> x.segment(0, 0, what));
            noSuch("what " + what + " of the last", () -> x.segment(0, 2, what));
            noSuch("what " + what + " of none", () -> x.segment(0, 3, what));
        }
        int[][] due = {{0, 8, 1, NONE, NONE, 0, 40, 0}, {8, 32, 0, 3, 0, 0, 40, 0}, {80, 40, 0, 3, 1, 80, 40, 0}};
        for (int i = 0; i < due.length; i++) {
            for (int what = 0; what < 8; what++) {
                is("segment " + i + ", " + what, x.segment(0, i, what), due[i][what]);
            }
        }
    }

    private static void segmentOwners() {
        sentence("Promise 12: 2 whose it is; 3, 4 NONE both if it is TAKEN; 7 whether that was IMPORTED (1)");
        Watched x = one(1, 1, 0, 64);
        x.make(1, 0, 0);
        is("a client's", x.take(0, 8, BEST, 0), 0);
        is("a SLAB", x.take(0, 1, BEST, 0), 8);
        is("an arena's above", x.take(1, 8, BEST, 0), 12);
        is("by bounds", x.takeWithin(0, 8, 1, 0, 0), 20);
        int[] owners = {1, 2, 3, 4, 0};
        for (int i = 0; i < owners.length; i++) {
            is("whose " + i, x.segment(0, i, 2), owners[i]);
            is("list " + i, x.segment(0, i, 3), owners[i] == 0 ? 5 : NONE);
            is("ahead " + i, x.segment(0, i, 4), owners[i] == 0 ? 0 : NONE);
            is("its SPAN " + i, x.segment(0, i, 5), 0);
            is("its SPAN's size " + i, x.segment(0, i, 6), 64);
            is("not IMPORTED " + i, x.segment(0, i, 7), 0);
        }
        is("above: a client's", x.segment(1, 0, 2), 1);
        is("above: its SPAN", x.segment(1, 0, 5), 12);
        is("above: its SPAN's size", x.segment(1, 0, 6), 8);
        is("above: IMPORTED", x.segment(1, 0, 7), 1);

        sentence("Promise 12: the i-th SEGMENT, by bases");
        Watched order = one(1, 0, 300, 8, 100, 8, 200, 8, 0, 8, 400, 8);
        for (int i = 0; i < 5; i++) {
            is("segment " + i, order.segment(0, i, 0), 100 * i);
        }
    }

    private static void cache() {
        sentence("Promise 13: NoSuchElementException: there is no such cache, or another what");
        for (int c = 0; c <= 8; c++) {
            Watched x = one(4, c, 0, 256);
            for (int i : new int[] {-1, 0, c + 1, c + 2, 9, MAX, MIN}) {
                noSuch("cache " + i + " of " + c, () -> x.cache(0, i, 0));
                noSuch("cache " + i + " of " + c + ", and a wrong what", () -> x.cache(0, i, 10));
            }
            for (int i = 1; i <= c; i++) {
                int told = i;
                caches(x, 0, i, 0, 0, 0, 0, 0, 0, 0, 0, NONE, NONE);
                for (int what : new int[] {-2, -1, 10, 11, MAX, MIN}) {
                    noSuch("what " + what, () -> x.cache(0, told, what));
                }
            }
        }
        sentence("Promise 13: each what, of each DESK and each i");
        Watched x = one(1, 2, 100, 64);
        for (int n = 0; n < 16; n++) {
            x.take(0, 1, BEST, 0);
        }
        is("of 2", x.take(0, 2, BEST, 0), 116);
        for (int n = 0; n < 4; n++) {
            x.give(0, 100 + n, 1, 0);
        }
        for (int n = 4; n < 12; n++) {
            x.give(0, 100 + n, 1, 1);
        }
        caches(x, 0, 1, 4, 1, 3, 2, 3, 1, 0, 2, 103, 111);
        caches(x, 0, 2, 1, 0, 0, 0, 0, 0, 3, 1, NONE, NONE);
        x.take(0, 1, BEST, 0);
        caches(x, 0, 1, 5, 0, 3, 2, 3, 1, 0, 2, NONE, 111);
        x.give(0, 116, 2, 1);
        caches(x, 0, 2, 0, 0, 0, 1, 0, 0, 3, 1, NONE, 116);
        Watched zero = one(1, 1, 0, 4);
        zero.take(0, 1, BEST, 0);
        zero.give(0, 0, 1, 0);
        is("a top that is 0 is not NONE", zero.cache(0, 1, 8), 0);
        is("it comes out", zero.take(0, 1, BEST, 0), 0);
        is("NONE then", zero.cache(0, 1, 8), NONE);
    }

    private static void where() {
        sentence("Promise 14: NONE in no SPAN, 0 in a FREE segment");
        Watched x = one(8, 0, 16, 16, 48, 8);
        int[][] due = {{MIN, NONE}, {-1, NONE}, {0, NONE}, {15, NONE}, {16, 0}, {31, 0}, {32, NONE}, {47, NONE}, {48, 0},
            {55, 0}, {56, NONE}, {TOP - 1, NONE}, {TOP, NONE}, {MAX, NONE}};
        for (int[] d : due) {
            is("where " + d[0], x.where(0, d[0]), d[1]);
        }
        is("no SPANS", one(1, 0).where(0, 0), NONE);
        Watched all = one(1, 0, 0, TOP);
        int[][] ends = {{MIN, NONE}, {-1, NONE}, {0, 0}, {TOP - 1, 0}, {TOP, NONE}, {MAX, NONE}};
        for (int[] d : ends) {
            is("where " + d[0], all.where(0, d[0]), d[1]);
        }

        sentence("Promise 14: 1 by take(), 2 in a SLAB, in no client's OBJECT, 3 an arena above, 4 by takeWithin()");
        Watched y = one(1, 3, 0, 16, 100, 64);
        y.make(1, 0, 0);
        is("an OBJECT of 3", y.take(0, 3, BEST, 0), 0);
        is("the next", y.take(0, 3, BEST, 0), 3);
        y.give(0, 0, 3, 0);
        is("4", y.take(0, 4, BEST, 0), 100);
        is("4 above", y.take(1, 4, BEST, 0), 104);
        is("4 by bounds", y.takeWithin(0, 4, 1, 0, 0), 108);
        int[][] parts = {{0, 2}, {2, 2}, {3, 1}, {5, 1}, {6, 2}, {14, 2}, {15, 2}, {16, NONE}, {99, NONE}, {100, 1}, {103, 1},
            {104, 3}, {107, 3}, {108, 4}, {111, 4}, {112, 0}, {163, 0}, {164, NONE}};
        for (int[] d : parts) {
            is("where " + d[0], y.where(0, d[0]), d[1]);
        }
        is("above: ahead of it", y.where(1, 103), NONE);
        is("above: its first", y.where(1, 104), 1);
        is("above: its last", y.where(1, 107), 1);
        is("above: behind it", y.where(1, 108), NONE);
    }

    // ---------------------------------------------------------------- 512 calls

    private static void fiveHundredAndTwelveCalls() {
        sentence("What it is: An object is used for at most 512 calls after it has been made");
        Watched x = one(1, 1, 0, 1000);
        while (x.callsLeft() > 2) {
            is("take", x.take(0, 2, BEST, 0), 0);
            give(x, 0, 0, 2);
        }
        is("tags at the last calls", x.tags(), 598);
        is("the 512th", x.count(0, 6), 1000);
        is("none is left", x.callsLeft(), 0);
    }

    public static void main(String[] args) {
        newObject();
        noSuchArena();
        makeRefused();
        addRefused();
        addMeets();
        takeRefused();
        giveRefused();
        giveOnce();
        withinAlignAndPhase();
        withinLowAndHigh();
        withinCross();
        withinLeastSegment();
        withinPurges();
        withinRefused();
        giveWithin();
        bounds();
        purge();
        tags();
        count();
        segment();
        segmentOwners();
        cache();
        where();
        fiveHundredAndTwelveCalls();
        finish();
    }
}
