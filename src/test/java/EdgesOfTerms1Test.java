/** Terms 1, sentence by sentence: each boundary case with its neighbours. */
public final class EdgesOfTerms1Test extends Checks {

    private static void atMostEight() {
        sentence("Terms 1: ARENAS are numbered from 0 on, as they are made, at most 8");
        Watched x = new Watched();
        for (int n = 0; n < 8; n++) {
            int number = n;
            noArena("arena " + n + " ahead of its make", () -> x.count(number, 0));
            illegal("a refused make has no number", () -> x.make(3, NONE, 0));
            is("arena " + n, x.make(1 << n, NONE, 0), n);
            is("its quantum", x.count(n, 0), 1 << n);
        }
        is("a ninth", x.make(1, NONE, 0), NONE);
        is("a ninth again", x.make(1, 7, 8), NONE);
        noArena("arena 8", () -> x.count(8, 0));
        noArena("arena -1", () -> x.count(-1, 0));
        is("the last is the eighth", x.count(7, 0), 128);
        unchanged("a ninth changes nothing", EdgesOfTerms1Test::eightArenas,
            y -> is("ninth", y.make(2, 0, 3), NONE));
    }

    private static void eightArenas(Watched x) {
        for (int n = 0; n < 8; n++) {
            x.make(4, n - 1, n % 3);
        }
        x.add(0, 0, 400);
        x.take(7, 30, BEST, 0);
    }

    private static void quantum() {
        sentence("Terms 1: a QUANTUM (a power of two, 1 to 65536)");
        for (int k = 0; k <= 16; k++) {
            int q = 1 << k;
            Watched x = new Watched();
            if (q != 2) {
                illegal("quantum " + (q - 1), () -> x.make(q - 1, NONE, 0));
            }
            if (q != 1) {
                illegal("quantum " + (q + 1), () -> x.make(q + 1, NONE, 0));
            }
            illegal("quantum -" + q, () -> x.make(-q, NONE, 0));
            is("quantum " + q, x.make(q, NONE, 0), 0);
            is("it is told", x.count(0, 0), q);
        }
        Watched x = new Watched();
        for (int k = 17; k <= 31; k++) {
            int q = 1 << k;
            illegal("quantum " + q, () -> x.make(q, NONE, 0));
        }
        illegal("quantum MAX", () -> x.make(MAX, NONE, 0));
        illegal("1 and 65536 at once", () -> x.make(65536 + 1, NONE, 0));
    }

    private static void source() {
        sentence("Terms 1: a SOURCE (an arena made ahead of it, whose QUANTUM is not less, or none)");
        Watched x = new Watched();
        illegal("no arena is made yet", () -> x.make(8, 0, 0));
        is("none", x.make(8, NONE, 0), 0);
        illegal("neither NONE nor an arena", () -> x.make(8, -2, 0));
        illegal("itself", () -> x.make(8, 1, 0));
        illegal("one made later", () -> x.make(8, 2, 0));
        illegal("above all", () -> x.make(8, 8, 0));
        illegal("MAX", () -> x.make(8, MAX, 0));
        illegal("MIN", () -> x.make(8, MIN, 0));
        illegal("a source with half the quantum", () -> x.make(16, 0, 0));
        is("one with the same", x.make(8, 0, 0), 1);
        is("one with double", x.make(4, 1, 0), 2);
        is("one far above", x.make(1, 0, 0), 3);
        illegal("a source with half the quantum, the last made", () -> x.make(2, 3, 0));
        is("the last made", x.make(1, 3, 0), 4);
        is("none is told", x.count(0, 1), NONE);
        is("0 is told", x.count(1, 1), 0);
        is("3 is told", x.count(4, 1), 3);
        Watched y = one(65536, 0);
        is("the greatest over the greatest", y.make(65536, 0, 0), 1);
        is("the least over the greatest", y.make(1, 0, 0), 2);
        illegal("2 over the least", () -> y.make(2, 2, 0));
    }

    private static void cached() {
        sentence("Terms 1: CACHED (0 to 8)");
        Watched none = new Watched();
        for (int c : new int[] {-1, 9, 10, MAX, MIN}) {
            illegal("cached " + c, () -> none.make(1, NONE, c));
        }
        for (int c = 0; c <= 8; c++) {
            Watched x = one(4, c);
            is("cached is told", x.count(0, 2), c);
            for (int i = -1; i <= 9; i++) {
                int n = i;
                if (i >= 1 && i <= c) {
                    is("cache " + i + " of " + c, x.cache(0, i, 0), 0);
                } else {
                    noSuch("cache " + i + " of " + c, () -> x.cache(0, n, 0));
                }
            }
        }
    }

    private static void sizesAreRoundedUp() {
        sentence("Terms 1: SIZES are rounded up to a multiple of its QUANTUM, when they come");
        int[][] due = {{1, 16}, {15, 16}, {16, 16}, {17, 32}, {31, 32}, {32, 32}, {33, 48}};
        for (int[] d : due) {
            for (int way = 0; way < 3; way++) {
                Watched x = one(16, 0, 160, 160);
                is("take " + d[0], x.take(0, d[0], way, 0), 160);
                segments(x, 0, 160, d[1], 1, 160 + d[1], 160 - d[1], 0);
            }
            Watched y = one(16, 0, 160, 160);
            is("takeWithin " + d[0], y.takeWithin(0, d[0], 16, 0, 0), 160);
            segments(y, 0, 160, d[1], 4, 160 + d[1], 160 - d[1], 0);
        }
        for (int size = 0; size <= 50; size++) {
            int told = size;
            Watched x = one(16, 0, 0, 96);
            x.take(0, 32, BEST, 0);
            x.takeWithin(0, 32, 32, 0, 0);
            if (size > 16 && size <= 32) {
                is("give " + size, x.give(0, 0, size, 0), 0);
                is("giveWithin " + size, x.giveWithin(0, 32, size), 0);
                segments(x, 0, 0, 96, 0);
            } else {
                illegal("give " + size, () -> x.give(0, 0, told, 0));
                illegal("giveWithin " + size, () -> x.giveWithin(0, 32, told));
                segments(x, 0, 0, 32, 1, 32, 32, 4, 64, 32, 0);
            }
        }
    }

    private static void cachedSizesAreRoundedUp() {
        sentence("Terms 1: SIZES are rounded up, of a cached size");
        int[][] due = {{1, 1}, {15, 1}, {16, 1}, {17, 2}, {32, 2}, {33, 0}, {48, 0}};
        for (int[] d : due) {
            Watched x = one(16, 2, 0, 320);
            is("take " + d[0], x.take(0, d[0], BEST, 0), 0);
            for (int i = 1; i <= 2; i++) {
                is("take " + d[0] + ": objects of " + i, x.cache(0, i, 0), i == d[1] ? 1 : 0);
            }
            is("take " + d[0] + ": slabs", x.count(0, 10), d[1] == 0 ? 0 : 1);
        }
        Watched x = one(16, 2, 0, 320);
        x.take(0, 17, BEST, 0);
        illegal("16 is another object", () -> x.give(0, 0, 16, 0));
        illegal("33 is none", () -> x.give(0, 0, 33, 0));
        is("24 is it", x.give(0, 0, 24, 0), 0);
    }

    private static void greatSizesAreRoundedUp() {
        sentence("Terms 1: SIZES are rounded up, the greatest ones");
        Watched x = one(65536, 0, 0, TOP);
        is("one quantum less than all", x.take(0, TOP - 65536, BEST, 0), 0);
        is("a quantum is left", x.count(0, 6), 65536);
        illegal("one more is all", () -> x.give(0, 0, TOP - 65535, 0));
        is("a lesser one is it", x.give(0, 0, TOP - 65536 - 65535, 0), 0);
        is("one more than one quantum less than all", x.take(0, TOP - 65535, BEST, 0), 0);
        is("nothing is left", x.count(0, 6), 0);
        illegal("above all numbers", () -> x.give(0, 0, TOP + 1, 0));
        illegal("above all ints", () -> x.give(0, 0, MAX, 0));
        is("all", x.give(0, 0, TOP, 0), 0);
        is("rounded above all ints", x.take(0, MAX, BEST, 0), NONE);
        is("rounded above all ints, with bounds", x.takeWithin(0, MAX, 65536, 0, 0), NONE);
        illegal("giveWithin above all ints", () -> x.giveWithin(0, 0, MAX));
    }

    private static void spansLieWithin() {
        sentence("Terms 1: A SPAN lies within 0 .. 1073741823");
        Watched x = one(1, 0);
        is("from -1", x.add(0, -1, 1), NONE);
        is("from -1 over 0", x.add(0, -1, 2), NONE);
        is("from 0", x.add(0, 0, 1), 0);
        is("from 1", x.add(0, 1, 1), 0);
        is("up to 1073741822", x.add(0, TOP - 3, 2), 0);
        is("up to 1073741823", x.add(0, TOP - 1, 1), 0);
        is("up to 1073741824", x.add(0, TOP - 1000, 1001), NONE);
        is("from 1073741824", x.add(0, TOP, 1), NONE);
        is("from 1073741825", x.add(0, TOP + 1, 1), NONE);
        is("from MAX", x.add(0, MAX, 1), NONE);
        is("from MAX, so large", x.add(0, MAX, MAX), NONE);
        is("from MIN", x.add(0, MIN, 1), NONE);
        is("from MIN, so large", x.add(0, MIN, MAX), NONE);
        is("so large that the end turns round", x.add(0, 100, MAX), NONE);
        segments(x, 0, 0, 1, 0, 1, 1, 0, TOP - 3, 2, 0, TOP - 1, 1, 0);
        Watched all = one(1, 0);
        is("one more than all", all.add(0, 0, TOP + 1), NONE);
        is("all, one too high", all.add(0, 1, TOP), NONE);
        is("all but 0", all.add(0, 1, TOP - 1), 0);
        is("0", all.add(0, 0, 1), 0);
        Watched q = one(65536, 0);
        is("a quantum below 0", q.add(0, -65536, 65536), NONE);
        is("the last quantum and one more", q.add(0, TOP - 65536, 131072), NONE);
        is("one quantum too high", q.add(0, TOP, 65536), NONE);
        is("the last quantum", q.add(0, TOP - 65536, 65536), 0);
        is("the first quantum", q.add(0, 0, 65536), 0);
        is("all at once", one(65536, 0).add(0, 0, TOP), 0);
    }

    private static void lists() {
        sentence("Terms 1: LIST k, 2^k QUANTA being the greatest power of two that is not above its size");
        for (int shift : new int[] {0, 1, 4, 16}) {
            for (int k = 0; k <= 30 - shift; k++) {
                for (int near = -1; near <= 1; near++) {
                    int quanta = (1 << k) + near;
                    if (quanta < 1 || quanta > 1 << 30 - shift) {
                        continue;
                    }
                    Watched x = one(1 << shift, 0, 0, quanta << shift);
                    int list = 0;
                    while (2L << list <= quanta) {
                        list++;
                    }
                    is("list of " + quanta + " quanta", x.segment(0, 0, 3), list);
                    is("first there", x.segment(0, 0, 4), 0);
                }
            }
        }
    }

    private static void theLatestIsFirst() {
        sentence("Terms 1: in a LIST the one that came latest is first");
        Watched x = one(1, 0, 20, 7, 0, 4, 10, 5, 40, 3, 30, 8);
        // 4 to 7 share a list; 3 and 8, its neighbours, have their own
        ahead(x, 0, 1, 0, 2, 0, 0);
        is("instant has the latest", x.take(0, 4, INSTANT, 0), 10);
        is("then the one ahead of it", x.take(0, 4, INSTANT, 0), 0);
        is("then the earliest", x.take(0, 4, INSTANT, 0), 20);
        is("then the next list", x.take(0, 4, INSTANT, 0), 30);

        sentence("Terms 1: a segment that is made is a new one");
        Watched made = one(1, 0, 0, 4, 10, 5, 20, 7);
        ahead(made, 0, 2, 1, 0);
        is("whole", made.take(0, 5, BEST, 0), 10);
        ahead(made, 0, 1, NONE, 0);
        give(made, 0, 10, 5);
        ahead(made, 0, 2, 0, 1);
    }

    private static void cutOnesAreNew() {
        sentence("Terms 1: a segment that is cut is a new one");
        Watched x = one(1, 0, 0, 7, 10, 7, 20, 7);
        is("the earliest is cut", x.take(0, 1, BEST, 0), 0);
        segments(x, 0, 0, 1, 1, 1, 6, 0, 10, 7, 0, 20, 7, 0);
        ahead(x, 0, NONE, 0, 2, 1);
        is("cut into the next lower list", x.take(0, 5, NEXT, 0), 1);
        ahead(x, 0, NONE, NONE, 0, 1, 0);
        is("its list is that of 1", x.segment(0, 2, 3), 0);
        Watched y = one(1, 0, 0, 14, 20, 5, 30, 6);
        is("cut by bounds", y.takeWithin(0, 4, 64, 5, 0), 5);
        // 0 .. 4, 9 .. 13 and 20 .. 24, 30 .. 35 all lie in list 2
        segments(y, 0, 0, 5, 0, 5, 4, 4, 9, 5, 0, 20, 5, 0, 30, 6, 0);
        ahead(y, 0, 1, NONE, 0, 3, 2);
        Watched z = one(1, 0, 0, 14, 20, 5, 30, 6);
        z.bounds(0, 10, 14);
        is("cut at its end", z.takeWithin(0, 4, 1, 0, 0), 10);
        ahead(z, 0, 0, NONE, 1, 0);
        is("what is ahead has list 3", z.segment(0, 0, 3), 3);
    }

    private static void mergedOnesAreNew() {
        sentence("Terms 1: a segment that is merged is a new one");
        Watched behind = one(1, 0, 0, 7, 10, 7, 20, 7);
        behind.take(0, 1, BEST, 0);
        behind.take(0, 7, BEST, 0);
        give(behind, 0, 10, 7);
        ahead(behind, 0, NONE, 1, 0, 2);
        give(behind, 0, 0, 1);
        ahead(behind, 0, 0, 1, 2);
        Watched ahead = one(1, 0, 0, 7, 10, 7);
        ahead.bounds(0, 6, 17);
        is("the last number", ahead.takeWithin(0, 1, 8, 6, 0), 6);
        is("the other span", ahead.take(0, 7, BEST, 0), 10);
        give(ahead, 0, 10, 7);
        ahead(ahead, 0, 1, NONE, 0);
        is("given", ahead.giveWithin(0, 6, 1), 0);
        ahead(ahead, 0, 0, 1);
        Watched both = one(1, 0, 0, 15, 20, 9);
        is("a midst", both.takeWithin(0, 3, 64, 6, 0), 6);
        give(both, 0, both.take(0, 9, BEST, 0), 9);
        ahead(both, 0, 1, NONE, 0, 0);
        both.giveWithin(0, 6, 3);
        ahead(both, 0, 0, 1);
    }

    private static void failedCallsLeavePlaces() {
        sentence("Terms 1: in a LIST what isn't made, merged or cut keeps its place");
        Steps before = x -> {
            x.make(1, NONE, 1);
            addAll(x, 0, 20, 7, 0, 4, 10, 5, 40, 3, 30, 8);
        };
        unchanged("refused calls", before, x -> {
            illegal("give", () -> x.give(0, 0, 4, 0));
            illegal("giveWithin", () -> x.giveWithin(0, 0, 4));
            illegal("take", () -> x.take(0, 0, BEST, 0));
            illegal("takeWithin", () -> x.takeWithin(0, 1, 3, 0, 0));
            is("a span that meets another", x.add(0, 3, 2), NONE);
        });
        Watched x = one(1, 0, 20, 7, 0, 4, 10, 5, 40, 3, 30, 8);
        is("too much by best", x.take(0, 9, BEST, 0), NONE);
        is("too much by instant", x.take(0, 9, INSTANT, 0), NONE);
        is("too much by next", x.take(0, 9, NEXT, 0), NONE);
        is("too much by bounds", x.takeWithin(0, 9, 1, 0, 0), NONE);
        x.purge(0);
        ahead(x, 0, 1, 0, 2, 0, 0);
    }

    private static void tagsOfSpansAndSegments() {
        sentence("Terms 1: TAGS: each SPAN has one, each SEGMENT one: the house has 600");
        Watched x = new Watched();
        is("an empty house", x.tags(), 600);
        x.make(1, NONE, 1);
        x.make(1, 0, 1);
        is("arenas have none", x.tags(), 600);
        x.add(0, 0, 20);
        is("a span of one segment", x.tags(), 598);
        x.add(0, 20, 20);
        is("another one", x.tags(), 596);
        is("refused", x.add(0, 20, 20), NONE);
        is("a refused one has none", x.tags(), 596);
        x.take(0, 20, BEST, 0);
        is("a whole one", x.tags(), 596);
        x.take(0, 19, BEST, 0);
        is("all but one number", x.tags(), 595);
        x.take(0, 2, BEST, 0);
        is("failed", x.tags(), 595);
        give(x, 0, 20, 19);
        is("merged", x.tags(), 596);
        x.take(1, 1, BEST, 0);
        is("a slab of 4, imported whole: 1 below, 2 here", x.tags(), 593);
        give(x, 1, 20, 1);
        is("a magazine has none", x.tags(), 593);
        x.purge(1);
        is("all of it is back", x.tags(), 596);
    }

    // ---------------------------------------------------------------- FULL

    /** A chain of 7 arenas with so many TAGS left, and arena 7 with a magazine that holds one OBJECT. */
    private static void nearlyFull(Watched x, int left) {
        x.make(1, NONE, 0);
        x.add(0, 0, 100000);
        for (int i = 1; i < 7; i++) {
            x.make(1, i - 1, 0);
        }
        x.make(1, NONE, 1);
        x.add(7, 0, 40);
        x.take(7, 1, BEST, 0);
        x.give(7, 0, 1, 0);
        x.takeWithin(7, 2, 1, 0, 0);
        x.take(7, 3, BEST, 0);
        fillTo(x, 7, left);
    }

    private static Watched nearlyFull(int left) {
        Watched x = new Watched();
        nearlyFull(x, left);
        return x;
    }

    private static void fullBelowForty() {
        sentence("Terms 1: Where less than 40 are left, it is FULL (-2)");
        for (int left = 42; left >= 36; left--) {
            boolean full = left < 40;
            String at = " with " + left + " left";
            is("add" + at, nearlyFull(left).add(0, 200000, 5), full ? FULL : 0);
            int[] ways = {BEST, INSTANT, NEXT};
            for (int way : ways) {
                is("take by " + way + at, nearlyFull(left).take(7, 4, way, 0), full ? FULL : 9);
            }
            is("take by a long chain" + at, nearlyFull(left).take(6, 50000, BEST, 0) >= 0 ? 0 : FULL, full ? FULL : 0);
            is("takeWithin" + at, nearlyFull(left).takeWithin(7, 4, 16, 0, 0), full ? FULL : 16);
            is("take of an object" + at, nearlyFull(left).take(7, 1, BEST, 0), full ? FULL : 0);
            is("take of an object of a slab" + at, nearlyFull(left).take(7, 1, BEST, 1), full ? FULL : 1);
            is("add that fails" + at, nearlyFull(left).add(0, 5, 5), full ? FULL : NONE);
            is("add with a source" + at, nearlyFull(left).add(1, 200000, 5), full ? FULL : NONE);
            is("add below 0" + at, nearlyFull(left).add(0, -5, 5), full ? FULL : NONE);
            is("take that fails" + at, nearlyFull(left).take(7, 40, BEST, 0), full ? FULL : NONE);
            is("take above all numbers" + at, nearlyFull(left).take(7, TOP + 1, BEST, 0), full ? FULL : NONE);
            is("takeWithin that fails" + at, nearlyFull(left).takeWithin(7, 40, 1, 0, 0), full ? FULL : NONE);
        }
    }

    private static String countsOfAll(Watched x) {
        StringBuilder t = new StringBuilder("tags ").append(x.tags());
        for (int a = 0; a < 8; a++) {
            for (int what = 0; what < 15; what++) {
                t.append(' ').append(x.count(a, what));
            }
        }
        for (int what = 0; what < 10; what++) {
            t.append(' ').append(x.cache(7, 1, what));
        }
        return t.toString();
    }

    private static void nothingIsDoneWhenFull() {
        sentence("Terms 1: it is FULL (-2), and nothing is done");
        String due = countsOfAll(nearlyFull(39));
        Steps[] calls = {
            x -> x.add(0, 200000, 5),
            x -> x.take(7, 4, BEST, 0),
            x -> x.take(7, 4, INSTANT, 0),
            x -> x.take(7, 4, NEXT, 0),
            x -> x.take(7, 1, BEST, 0),
            x -> x.take(7, 1, BEST, 1),
            x -> x.take(7, 39, BEST, 0),
            x -> x.take(7, TOP + 1, BEST, 0),
            x -> x.take(6, 50000, BEST, 0),
            x -> x.takeWithin(7, 4, 16, 0, 0),
            x -> x.takeWithin(7, 40, 1, 0, 0),
        };
        for (int i = 0; i < calls.length; i++) {
            Watched x = nearlyFull(39);
            calls[i].run(x);
            same("refused call " + i, countsOfAll(x), due);
        }
    }

    private static void whatNeedsNoneGoesOn() {
        sentence("Terms 1: a call that could need no TAGS is not FULL");
        Watched x = nearlyFull(39);
        is("giveWithin", x.giveWithin(7, 4, 2), 0);
        is("that leaves as many", x.tags(), 39);
        is("purge", x.purge(7), 1);
        is("that leaves one more", x.tags(), 40);
        is("so there is room", x.take(7, 1, BEST, 0), 0);
        is("and then none", x.take(7, 5, BEST, 0), FULL);
        is("give of an object", x.give(7, 0, 1, 0), 0);
        is("give of a segment", x.give(7, 6, 3, 0), 0);
        x.bounds(7, 3, 4);
        is("make is none that needs some", x.make(1, NONE, 0), NONE);
        Watched y = chain(7);
        fillTo(y, 7, 36);
        is("make", y.make(1, NONE, 8), 7);
        is("the new arena is as full", y.add(7, 0, 1), FULL);
        is("its questions", y.count(7, 2), 8);
    }

    private static void wrongCallsWhenFull() {
        sentence("Terms 1: a wrong call is wrong, FULL or not");
        Watched x = nearlyFull(39);
        noArena("add", () -> x.add(8, 0, 1));
        noArena("take", () -> x.take(8, 1, 0, 0));
        noArena("takeWithin", () -> x.takeWithin(-1, 1, 1, 0, 0));
        illegal("add", () -> x.add(0, 200000, 0));
        illegal("take's size", () -> x.take(0, 0, 0, 0));
        illegal("take's way", () -> x.take(0, 1, 3, 0));
        illegal("take's desk", () -> x.take(0, 1, 0, 2));
        illegal("takeWithin's align", () -> x.takeWithin(0, 1, 3, 0, 0));
        illegal("takeWithin's phase", () -> x.takeWithin(0, 1, 2, 2, 0));
        illegal("takeWithin's cross", () -> x.takeWithin(0, 1, 2, 0, 3));
    }

    public static void main(String[] args) {
        atMostEight();
        quantum();
        source();
        cached();
        sizesAreRoundedUp();
        cachedSizesAreRoundedUp();
        greatSizesAreRoundedUp();
        spansLieWithin();
        lists();
        theLatestIsFirst();
        cutOnesAreNew();
        mergedOnesAreNew();
        failedCallsLeavePlaces();
        tagsOfSpansAndSegments();
        fullBelowForty();
        nothingIsDoneWhenFull();
        whatNeedsNoneGoesOn();
        wrongCallsWhenFull();
        finish();
    }
}
