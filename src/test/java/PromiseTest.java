/** Each promise of DOC.md by number: ordinary calls, the edges that it names, wrong inputs. */
public final class PromiseTest extends Checks {
    // ---------------------------------------------------------------- 1 to 3

    private static void newObject() {
        sentence("promise 1");
        Watched x = new Watched();
        is("NONE", RangeArenas.NONE, -1);
        is("tags", x.tags(), 600);
        for (int n : new int[] {0, 1, 7, 8, -1, MAX, MIN}) {
            noArena("add", () -> x.add(n, 0, 1));
            noArena("take", () -> x.take(n, 1, 0, 0));
            noArena("give", () -> x.give(n, 0, 1, 0));
            noArena("takeWithin", () -> x.takeWithin(n, 1, 1, 0, 0));
            noArena("giveWithin", () -> x.giveWithin(n, 0, 1));
            noArena("bounds", () -> x.bounds(n, 0, 1));
            noArena("purge", () -> x.purge(n));
            noArena("count", () -> x.count(n, 0));
            noArena("segment", () -> x.segment(n, 0, 0));
            noArena("cache", () -> x.cache(n, 1, 0));
            noArena("where", () -> x.where(n, 0));
        }
        Watched y = new Watched();
        x.make(1, NONE, 0);
        noArena("another object has its own arenas", () -> y.count(0, 0));
    }

    private static void make() {
        sentence("promise 2");
        Watched x = new Watched();
        for (int q : new int[] {0, -1, 3, 6, 65535, 131072, TOP, MIN, MAX}) {
            illegal("quantum " + q, () -> x.make(q, NONE, 0));
        }
        for (int c : new int[] {-1, 9, MAX, MIN}) {
            illegal("cached " + c, () -> x.make(1, NONE, c));
        }
        for (int s : new int[] {-2, 0, 1, 8, MAX, MIN}) {
            illegal("source " + s, () -> x.make(1, s, 0));
        }
        is("first", x.make(65536, NONE, 8), 0);
        is("second", x.make(16, 0, 0), 1);
        is("same quantum", x.make(16, 1, 0), 2);
        illegal("a source with a lesser quantum", () -> x.make(32, 1, 0));
        illegal("a source that isn't made yet", () -> x.make(1, 3, 0));
        is("least quantum", x.make(1, 2, 3), 3);
        counts(x, 0, 65536, NONE, 8, 0, 0, 0, 0, 0, 0, 0, 0, 0, 0, 0, 0);
        counts(x, 3, 1, 2, 3, 0, 0, 0, 0, 0, 0, 0, 0, 0, 0, 0, 0);
        for (int n = 4; n < 8; n++) {
            is("arena " + n, x.make(2, NONE, 0), n);
        }
        is("a ninth", x.make(1, NONE, 0), NONE);
        is("a ninth with a source", x.make(1, 7, 1), NONE);
        illegal("a wrong ninth", () -> x.make(3, NONE, 0));
        noArena("no ninth", () -> x.count(8, 0));
        is("making takes no tags", x.tags(), 600);
    }

    private static void add() {
        sentence("promise 3");
        Watched x = one(4, 0);
        x.make(4, 0, 0);
        is("span", x.add(0, 100, 40), 0);
        segments(x, 0, 100, 40, 0);
        is("its tags", x.tags(), 598);
        is("the same", x.add(0, 100, 40), NONE);
        is("inside", x.add(0, 104, 4), NONE);
        is("around", x.add(0, 0, 400), NONE);
        is("over its end", x.add(0, 136, 8), NONE);
        is("over its base", x.add(0, 96, 8), NONE);
        is("a neighbour behind", x.add(0, 140, 4), 0);
        is("a neighbour ahead", x.add(0, 96, 4), 0);
        is("the last numbers", x.add(0, TOP - 4, 4), 0);
        is("beyond", x.add(0, TOP - 8, 12), NONE);
        is("far beyond", x.add(0, TOP, 4), NONE);
        is("beyond int", x.add(0, 2147483644, 2147483644), NONE);
        is("below 0", x.add(0, -4, 4), NONE);
        is("far below 0", x.add(0, MIN, 4), NONE);
        segments(x, 0, 96, 4, 0, 100, 40, 0, 140, 4, 0, TOP - 4, 4, 0);
        is("an arena with a source", x.add(1, 0, 4), NONE);
        is("its spans", x.count(1, 3), 0);
        illegal("base", () -> x.add(0, 202, 4));
        illegal("base below 0", () -> x.add(0, -2, 4));
        illegal("size", () -> x.add(0, 200, 6));
        illegal("size 0", () -> x.add(0, 200, 0));
        illegal("size below 0", () -> x.add(0, 200, -4));
        illegal("size MIN", () -> x.add(0, 200, MIN));
        illegal("in an arena with a source", () -> x.add(1, 2, 4));
        Watched y = one(1, 0, 0, TOP);
        is("all numbers", y.count(0, 6), TOP);
        is("all numbers in one list", y.segment(0, 0, 3), 30);
        is("nothing more", y.add(0, TOP - 1, 1), NONE);
        addWhenFull();
    }

    private static void addWhenFull() {
        Watched x = one(1, 0);
        for (int i = 0; i < 280; i++) {
            is("span " + i, x.add(0, 2 * i, 1), 0);
        }
        is("exactly 40 left", x.tags(), 40);
        is("40 are enough", x.add(0, 1000, 1), 0);
        is("38 left", x.tags(), 38);
        is("full", x.add(0, 2000, 1), FULL);
        is("full ahead of -1", x.add(0, 0, 1), FULL);
        illegal("wrong, though full", () -> x.add(0, 0, 0));
        noArena("no arena, though full", () -> x.add(1, 0, 1));
        is("nothing was done", x.tags(), 38);
    }

    // ---------------------------------------------------------------- 4 and 5

    private static void take() {
        sentence("promise 4");
        takeBest();
        takeInstant();
        takeNext();
        takeImports();
        takePurges();
        takeOut();
        takeOutFails();
        takeWhenFull();
        Watched x = one(8, 2, 0, 800);
        for (int s : new int[] {0, -1, MIN}) {
            illegal("size " + s, () -> x.take(0, s, 0, 0));
        }
        for (int w : new int[] {-1, 3, MAX, MIN}) {
            illegal("way " + w, () -> x.take(0, 100, w, 0));
            illegal("way " + w + " of a cached size", () -> x.take(0, 1, w, 0));
            illegal("desk " + w, () -> x.take(0, 1, 0, w == 3 ? 2 : w));
            illegal("desk " + w + " of a size that is not cached", () -> x.take(0, 100, 0, w == 3 ? 2 : w));
        }
        segments(x, 0, 0, 800, 0);
    }

    private static void takeBest() {
        Watched x = one(4, 0, 400, 40, 0, 60, 100, 40, 200, 80);
        is("least, lowest", x.take(0, 33, 0, 0), 100);
        is("least, next", x.take(0, 40, 0, 0), 400);
        is("a greater one", x.take(0, 40, 0, 1), 0);
        is("what is left fits best", x.take(0, 20, 0, 0), 40);
        is("too large", x.take(0, 81, 0, 0), NONE);
        is("just so", x.take(0, 80, 0, 0), 200);
        is("the rest", x.take(0, 1, 0, 0), 136);
        segments(x, 0, 0, 40, 1, 40, 20, 1, 100, 36, 1, 136, 4, 1, 200, 80, 1, 400, 40, 1);
        counts(x, 0, 4, NONE, 0, 4, 6, 0, 0, 220, 0, 0, 0, 0, 0, 1, 1);
        is("above all numbers", x.take(0, TOP + 1, 0, 0), NONE);
        is("the greatest size", x.take(0, MAX, 1, 0), NONE);
        is("failed thrice", x.count(0, 13), 3);
        is("at once, so not purged again", x.count(0, 14), 1);
        is("all numbers", x.take(0, TOP, 2, 0), NONE);
        is("that was purged", x.count(0, 14), 2);
        Watched y = one(65536, 0, 0, TOP);
        is("rounded up to all numbers", y.take(0, TOP - 1, 1, 0), 0);
        is("all taken", y.count(0, 7), TOP);
    }

    private static void takeInstant() {
        Watched x = one(1, 0, 0, 9, 100, 15, 200, 40, 300, 8);
        is("list 3, the latest", x.take(0, 8, 1, 0), 300);
        is("list 3, then the next", x.take(0, 5, 1, 0), 100);
        is("the rest of 10 is new there", x.take(0, 7, 1, 0), 105);
        is("0 .. 8 is left in list 3", x.take(0, 8, 1, 0), 0);
        is("list 5 for 9, though it would need 16", x.take(0, 9, 1, 0), 200);
        is("instant passes by a fitting 31", x.count(0, 6), 31 + 1 + 3);
        is("list 4 has it", x.segment(0, x.count(0, 4) - 2, 3), 4);
        is("17 needs list 5", x.take(0, 17, 1, 0), NONE);
        is("best has it", x.take(0, 17, 0, 0), 209);
        Watched y = one(4, 0, 0, 12, 100, 16, 200, 64);
        is("by quanta: 3 quanta need list 2", y.take(0, 12, 1, 0), 100);
        is("1 quantum has list 0", y.take(0, 3, 1, 0), 112);
        is("then list 1", y.take(0, 4, 1, 0), 0);
    }

    private static void takeNext() {
        Watched x = one(1, 0, 10, 20, 50, 20, 90, 20);
        is("from 0 on", x.take(0, 5, 2, 0), 10);
        is("rotor", x.count(0, 11), 15);
        is("on", x.take(0, 16, 2, 0), 50);
        is("rotor behind it", x.count(0, 11), 66);
        is("the lowest at or above", x.take(0, 3, 2, 0), 66);
        is("best leaves the rotor", x.take(0, 1, 0, 0), 69);
        is("instant leaves the rotor", x.take(0, 16, 1, 0), 90);
        is("the rotor", x.count(0, 11), 69);
        is("above", x.take(0, 4, 2, 0), 106);
        is("none above, so the lowest", x.take(0, 1, 2, 0), 15);
        is("fails", x.take(0, 100, 2, 0), NONE);
        is("the rotor stays", x.count(0, 11), 16);
        Watched y = one(1, 0, 0, 30);
        y.take(0, 10, 2, 0);
        y.give(0, 0, 10, 0);
        is("a segment from below over the rotor is no one above it", y.take(0, 3, 2, 0), 0);
        is("its rotor", y.count(0, 11), 3);
    }

    private static void takeImports() {
        Watched x = one(64, 0, 0, 256);
        x.make(8, 0, 0);
        x.make(1, 1, 0);
        is("through two arenas", x.take(2, 3, 2, 0), 0);
        is("next over an import", x.count(2, 11), 3);
        is("its source's rotor stays", x.count(1, 11), 0);
        segments(x, 0, 0, 64, 3, 64, 192, 0);
        segments(x, 1, 0, 8, 3, 8, 56, 0);
        segments(x, 2, 0, 3, 1, 3, 5, 0);
        is("tags", x.tags(), 600 - 3 - 3 - 3);
        is("from what is left", x.take(2, 5, 0, 0), 3);
        is("from the source's", x.take(2, 9, 0, 0), 8);
        is("a span for itself", x.take(2, 8, 1, 0), 24);
        is("neighbours that are other spans don't serve together", x.take(1, 40, 0, 0), 64);
        is("imported spans", x.count(2, 12), 3);
        is("spans", x.count(2, 3), 3);
        is("the source's import", x.count(1, 12), 2);
        is("numbers that arenas above have", x.count(1, 8), 32);
        is("too much", x.take(2, 200, 0, 0), NONE);
        is("failed here", x.count(2, 13), 1);
        is("failed in its source", x.count(1, 13), 1);
        is("failed at the bottom", x.count(0, 13), 1);
        is("purged here", x.count(2, 14), 1);
        is("purged at the bottom", x.count(0, 14), 1);
        is("above all numbers", x.take(2, TOP + 1, 0, 0), NONE);
        is("failed here alone", x.count(2, 13) * 10 + x.count(1, 13), 21);
        Watched y = new Watched();
        y.make(1, NONE, 0);
        for (int i = 0; i < 7; i++) {
            y.make(1, i, 0);
        }
        is("an empty chain of eight", y.take(7, 1, 0, 0), NONE);
        for (int i = 0; i < 8; i++) {
            is("failed in " + i, y.count(i, 13), 1);
        }
        y.add(0, 5, 1);
        is("a chain of eight", y.take(7, 1, 0, 0), 5);
        is("its tags", y.tags(), 584);
        y.give(7, 5, 1, 0);
        is("given back through all", y.tags(), 598);
    }

    private static void takePurges() {
        Watched x = one(1, 2, 0, 20);
        is("object", x.take(0, 1, 0, 0), 0);
        is("object of 2", x.take(0, 2, 0, 1), 8);
        segments(x, 0, 0, 8, 2, 8, 8, 2, 16, 4, 0);
        x.give(0, 0, 1, 0);
        is("12 needs both slabs", x.take(0, 12, 0, 0), NONE);
        is("but one of them was given back", x.count(0, 10), 1);
        is("purged", x.count(0, 14), 1);
        is("failed", x.count(0, 13), 1);
        segments(x, 0, 0, 8, 0, 8, 8, 2, 16, 4, 0);
        x.give(0, 8, 2, 1);
        is("by purging the other", x.take(0, 12, 0, 0), 0);
        is("not failed", x.count(0, 13), 1);
        is("purged again", x.count(0, 14), 2);
        segments(x, 0, 0, 12, 1, 12, 8, 0);
        // what a purge gives back to the source is not asked for there again
        Watched y = one(1, 0, 0, 8);
        y.make(1, 0, 1);
        is("a slab of 4", y.take(1, 1, 0, 0), 0);
        y.give(1, 0, 1, 0);
        is("8 would be there after the purge", y.take(1, 8, 0, 0), NONE);
        counts(y, 1, 1, 0, 1, 0, 0, 0, 0, 0, 0, 0, 0, 0, 0, 1, 1);
        is("all is in the source", y.count(0, 6), 8);
        is("now it is", y.take(1, 8, 0, 0), 0);
        // the source purges its own caches for an arena above
        Watched z = one(1, 1, 0, 4);
        z.make(1, 0, 0);
        z.take(0, 1, 0, 0);
        is("no room", z.take(1, 4, 0, 0), NONE);
        z.give(0, 0, 1, 1);
        is("room by the source's purge", z.take(1, 4, 0, 0), 0);
        is("the source was purged twice", z.count(0, 14), 2);
        is("this one once", z.count(1, 14), 1);
    }

    private static void takeOut() {
        Watched x = one(2, 3, 0, 400);
        is("3 quanta from a slab of 16", x.take(0, 5, 0, 0), 0);
        caches(x, 0, 3, 1, 0, 0, 0, 0, 0, 4, 1, NONE, NONE);
        is("second", x.take(0, 6, 2, 1), 6);
        is("the way has no say", x.count(0, 11), 0);
        is("1 quantum has its own slab", x.take(0, 1, 0, 0), 32);
        for (int i = 2; i < 5; i++) {
            is("object " + i, x.take(0, 6, 0, 0), 6 * i);
        }
        is("a slab of 16 has 5 of 3; the next", x.take(0, 6, 0, 0), 64);
        is("one more than cached", x.take(0, 7, 0, 0), 96);
        segments(x, 0, 0, 32, 2, 32, 32, 2, 64, 32, 2, 96, 8, 1, 104, 296, 0);
        is("clients hold", x.count(0, 7), 6 * 6 + 2 + 8);
        is("in slabs", x.count(0, 9), 96);
        is("slabs", x.count(0, 10), 3);
        // LOADED, then SPARE, then DEPOT, then the lowest in slabs
        Watched y = one(1, 1, 0, 100);
        for (int i = 0; i < 16; i++) {
            is("object", y.take(0, 1, 0, 0), i);
        }
        for (int i = 0; i < 12; i++) {
            y.give(0, i, 1, 0);
        }
        caches(y, 0, 1, 4, 3, 3, 0, 0, 2, 0, 4, 11, NONE);
        is("desk 1 has the depot's top", y.take(0, 1, 0, 1), 5);
        caches(y, 0, 1, 5, 3, 3, 2, 0, 1, 0, 4, 11, 4);
        is("loaded", y.take(0, 1, 0, 0), 11);
        y.take(0, 1, 0, 0);
        y.take(0, 1, 0, 0);
        caches(y, 0, 1, 8, 0, 3, 2, 0, 1, 0, 4, NONE, 4);
        is("spare", y.take(0, 1, 0, 0), 8);
        caches(y, 0, 1, 9, 2, 0, 2, 0, 1, 0, 4, 7, 4);
        y.take(0, 1, 0, 0);
        y.take(0, 1, 0, 0);
        is("depot", y.take(0, 1, 0, 0), 2);
        caches(y, 0, 1, 12, 2, 0, 2, 0, 0, 0, 4, 1, 4);
        y.take(0, 1, 0, 0);
        y.take(0, 1, 0, 0);
        is("the other desk's are not asked, a new slab is", y.take(0, 1, 0, 0), 16);
        y.purge(0);
        is("the lowest one that lies in a slab", y.take(0, 1, 0, 0), 3);
        is("then the next", y.take(0, 1, 0, 1), 4);
        is("then the next slab's", y.take(0, 1, 0, 1), 17);
    }

    private static void takeOutFails() {
        Watched x = one(1, 2, 0, 16);
        for (int i = 0; i < 8; i++) {
            x.take(0, 1, 0, 0);
        }
        x.take(0, 2, 0, 0);
        x.give(0, 3, 1, 1);
        is("no slab; the purge's object is not asked", x.take(0, 1, 0, 0), NONE);
        is("failed", x.count(0, 13), 1);
        is("purged", x.count(0, 14), 1);
        caches(x, 0, 1, 7, 0, 0, 0, 0, 0, 1, 1, NONE, NONE);
        is("it lies in its slab", x.where(0, 3), 2);
        is("so now it is", x.take(0, 1, 0, 0), 3);
        x.give(0, 8, 2, 0);
        is("a slab in another's place", x.take(0, 1, 0, 0), 8);
        caches(x, 0, 2, 0, 0, 0, 0, 0, 0, 0, 0, NONE, NONE);
        caches(x, 0, 1, 9, 0, 0, 0, 0, 0, 7, 2, NONE, NONE);
        Watched y = one(16, 0, 0, 64);
        y.make(1, 0, 8);
        is("a slab of 32 by a source", y.take(1, 8, 0, 0), 0);
        is("1's slab", y.take(1, 1, 0, 0), 32);
        for (int i = 1; i < 32; i++) {
            is("1's object " + i, y.take(1, 1, 0, 1), 32 + i);
        }
        is("no more", y.take(1, 1, 0, 1), NONE);
        is("all held", y.cache(1, 1, 0), 32);
        is("the source failed too", y.count(0, 13), 1);
        is("7's", y.take(1, 7, 0, 0), NONE);
        is("clients hold", y.count(1, 7), 40);
    }

    private static void takeWhenFull() {
        Watched x = chain(7);
        x.make(1, NONE, 2);
        x.add(7, 0, 100);
        is("an object", x.take(7, 1, 0, 0), 0);
        x.give(7, 0, 1, 0);
        // single numbers are taken, 0 to 9 by arena 0, the others by arena 6
        fillTo(x, 7, 39);
        is("full", x.take(0, 1, 0, 0), FULL);
        is("full for a cached one too", x.take(7, 1, 0, 0), FULL);
        is("full ahead of failing", x.take(0, MAX, 0, 0), FULL);
        illegal("wrong, though full", () -> x.take(0, 0, 0, 0));
        is("nothing was done", x.count(0, 13) + x.count(0, 14) + x.cache(7, 1, 0), 0);
        is("giving goes on", x.give(0, 0, 1, 0), 0);
        is("no tag more by that", x.tags(), 39);
        is("but by a merge", x.give(0, 1, 1, 0), 0);
        is("one more", x.tags(), 40);
        is("taking goes on", x.take(0, 1, 0, 0), 0);
    }

    private static void give() {
        sentence("promise 5");
        Watched x = one(4, 0, 0, 100, 100, 20);
        for (int i = 0; i < 5; i++) {
            x.take(0, 20, 2, 0);
        }
        x.take(0, 20, 2, 0);
        is("size rounded up", x.give(0, 20, 17, 1), 0);
        is("two away", x.give(0, 60, 20, 0), 0);
        segments(x, 0, 0, 20, 1, 20, 20, 0, 40, 20, 1, 60, 20, 0, 80, 20, 1, 100, 20, 1);
        is("the latest is first", x.segment(0, 3, 4) * 10 + x.segment(0, 1, 4), 1);
        is("one with both neighbours", x.give(0, 40, 20, 0), 0);
        segments(x, 0, 0, 20, 1, 20, 60, 0, 80, 20, 1, 100, 20, 1);
        is("one with the one ahead, not over the span's end", x.give(0, 80, 20, 0), 0);
        is("not over the span's base", x.give(0, 100, 20, 0), 0);
        segments(x, 0, 0, 20, 1, 20, 80, 0, 100, 20, 0);
        for (int size : new int[] {16, 21, 0, -20, MAX, MIN}) {
            illegal("size " + size, () -> x.give(0, 0, size, 0));
        }
        for (int base : new int[] {1, 4, 20, 40, 100, 120, -1, MAX, MIN, TOP}) {
            illegal("base " + base, () -> x.give(0, base, 20, 0));
        }
        for (int desk : new int[] {-1, 2, MAX, MIN}) {
            illegal("desk " + desk, () -> x.give(0, 0, 20, desk));
        }
        segments(x, 0, 0, 20, 1, 20, 80, 0, 100, 20, 0);
        is("one with the one behind", x.give(0, 0, 20, 0), 0);
        illegal("twice", () -> x.give(0, 0, 20, 0));
        is("within's is not take's", x.takeWithin(0, 8, 4, 0, 0), 100);
        illegal("by takeWithin", () -> x.give(0, 100, 8, 0));
        giveImported();
        giveInto();
        giveObjects();
    }

    private static void giveImported() {
        Watched x = one(16, 0, 0, 64);
        x.make(4, 0, 0);
        x.make(1, 1, 0);
        is("a", x.take(2, 3, 0, 0), 0);
        is("b", x.take(2, 1, 0, 0), 3);
        is("c", x.take(1, 4, 0, 0), 4);
        illegal("an arena's above", () -> x.give(1, 0, 4, 0));
        is("b back", x.give(2, 3, 1, 0), 0);
        is("its span stays", x.count(2, 3), 1);
        is("a back", x.give(2, 0, 3, 0), 0);
        is("its span is no more", x.count(2, 3) + x.count(2, 4), 0);
        segments(x, 1, 0, 4, 0, 4, 4, 1, 8, 8, 0);
        is("what was given back is first", x.segment(1, 0, 4), 0);
        is("c back", x.give(1, 4, 4, 0), 0);
        is("nothing above", x.count(1, 4), 0);
        segments(x, 0, 0, 64, 0);
        is("tags", x.tags(), 598);
    }

    private static void giveInto() {
        Watched x = one(1, 1, 0, 100);
        for (int i = 0; i < 40; i++) {
            x.take(0, 1, 0, 0);
        }
        int[][] due = {{1, 0, 0}, {2, 0, 0}, {3, 0, 0}, {1, 3, 0}, {2, 3, 0}, {3, 3, 0}, {1, 3, 1}, {2, 3, 1},
            {3, 3, 1}, {1, 3, 2}, {2, 3, 2}, {3, 3, 2}, {1, 3, 3}, {2, 3, 3}, {3, 3, 3}, {1, 3, 4}, {2, 3, 4},
            {3, 3, 4}};
        for (int i = 0; i < due.length; i++) {
            x.give(0, i, 1, 0);
            caches(x, 0, 1, 39 - i, due[i][0], due[i][1], 0, 0, due[i][2], 0, 10, i, NONE);
        }
        x.give(0, 20, 1, 0);
        caches(x, 0, 1, 21, 3, 3, 0, 0, 4, 1, 10, 17, NONE);
        is("it lies in its slab", x.where(0, 20), 2);
        x.give(0, 21, 1, 1);
        caches(x, 0, 1, 20, 3, 3, 1, 0, 4, 1, 10, 17, 21);
        // the DEPOT is full for desk 1 as well
        for (int i = 22; i < 27; i++) {
            x.give(0, i, 1, 1);
        }
        caches(x, 0, 1, 15, 3, 3, 3, 3, 4, 1, 10, 17, 26);
        x.give(0, 27, 1, 1);
        caches(x, 0, 1, 14, 3, 3, 3, 3, 4, 2, 10, 17, 26);
        // and all comes out in its order
        int[] out = {17, 16, 15, 14, 13, 12, 11, 10, 9, 8, 7, 6, 5, 4, 3, 2, 1, 0, 20, 27, 40};
        for (int i = 0; i < out.length; i++) {
            is("out " + i, x.take(0, 1, 0, 0), out[i]);
        }
    }

    private static void giveObjects() {
        Watched x = one(2, 3, 0, 100);
        x.take(0, 6, 0, 0);
        x.take(0, 6, 0, 0);
        x.take(0, 2, 0, 0);
        x.take(0, 8, 0, 0);
        segments(x, 0, 0, 32, 2, 32, 32, 2, 64, 8, 1, 72, 28, 0);
        illegal("an object that lies", () -> x.give(0, 12, 6, 0));
        illegal("inside an object", () -> x.give(0, 2, 6, 0));
        illegal("inside an object, not even its quantum", () -> x.give(0, 1, 6, 0));
        illegal("another cache's", () -> x.give(0, 0, 2, 0));
        illegal("another cache's slab", () -> x.give(0, 32, 6, 0));
        illegal("the slab", () -> x.give(0, 0, 32, 0));
        illegal("behind the last object", () -> x.give(0, 30, 2, 0));
        illegal("a segment as an object", () -> x.give(0, 64, 6, 0));
        illegal("a free one as an object", () -> x.give(0, 72, 6, 0));
        illegal("no span", () -> x.give(0, 200, 6, 0));
        for (int desk : new int[] {-1, 2, MAX, MIN}) {
            illegal("desk " + desk, () -> x.give(0, 0, 6, desk));
        }
        caches(x, 0, 3, 2, 0, 0, 0, 0, 0, 3, 1, NONE, NONE);
        is("size rounded up", x.give(0, 6, 5, 1), 0);
        caches(x, 0, 3, 1, 0, 0, 1, 0, 0, 3, 1, NONE, 6);
        illegal("twice", () -> x.give(0, 6, 6, 1));
        caches(x, 0, 3, 1, 0, 0, 1, 0, 0, 3, 1, NONE, 6);
        is("a segment by 2.", x.give(0, 64, 7, 0), 0);
        segments(x, 0, 0, 32, 2, 32, 32, 2, 64, 36, 0);
    }

    // ---------------------------------------------------------------- 6 to 9

    private static void takeWithin() {
        sentence("promise 6");
        Watched x = one(1, 0, 3, 200);
        is("aligned with a phase", x.takeWithin(0, 10, 8, 5, 0), 5);
        segments(x, 0, 3, 2, 0, 5, 10, 4, 15, 188, 0);
        is("least segment in which there is one", x.takeWithin(0, 1, 4, 0, 0), 4);
        is("not in the least", x.takeWithin(0, 1, 4, 0, 0), 16);
        segments(x, 0, 3, 1, 0, 4, 1, 4, 5, 10, 4, 15, 1, 0, 16, 1, 4, 17, 186, 0);
        is("crossing nothing", x.takeWithin(0, 12, 2, 0, 16), 18);
        is("moved behind a multiple", x.takeWithin(0, 12, 2, 0, 16), 32);
        is("with a phase behind it", x.takeWithin(0, 4, 4, 1, 8), 49);
        is("exactly a block", x.takeWithin(0, 16, 1, 0, 16), 64);
        is("larger than a block", x.takeWithin(0, 17, 1, 0, 16), NONE);
        is("align above cross, a phase that crosses", x.takeWithin(0, 4, 32, 6, 8), NONE);
        is("align above cross, one that doesn't", x.takeWithin(0, 4, 32, 4, 8), 100);
        is("failed TO TAKE is another matter", x.count(0, 13), 0);
        is("purged", x.count(0, 14), 2);
        is("too large for all", x.takeWithin(0, MAX, 1, 0, 0), NONE);
        is("purged for that too", x.count(0, 14), 3);
        is("the greatest align", x.takeWithin(0, 1, TOP, 190, TOP), 190);
        is("the greatest align again", x.takeWithin(0, 1, TOP, TOP - 1, 0), NONE);
        is("rotor stays", x.count(0, 11), 0);
        is("clients hold", x.count(0, 7), 10 + 1 + 1 + 12 + 12 + 4 + 16 + 4 + 1);
        withinTies();
        withinBounds();
        withinPurges();
        withinSources();
        withinWrong();
    }

    private static void withinTies() {
        Watched x = one(4, 0, 400, 40, 200, 40, 100, 36, 0, 80);
        is("size rounded up, the least segment", x.takeWithin(0, 33, 4, 0, 0), 100);
        is("of several the lowest", x.takeWithin(0, 40, 8, 0, 0), 200);
        is("the other", x.takeWithin(0, 40, 8, 0, 0), 400);
        is("then the next size", x.takeWithin(0, 24, 8, 0, 0), 0);
        Watched y = one(1, 0, 0, 24, 96, 12);
        is("in the midst", y.takeWithin(0, 4, 16, 10, 0), 10);
        segments(y, 0, 0, 10, 0, 10, 4, 4, 14, 10, 0, 96, 12, 0);
        is("behind came later", y.segment(0, 2, 4), 0);
        is("ahead came earlier", y.segment(0, 0, 4), 1);
        is("both later than another", y.segment(0, 3, 4), 2);
        is("tags", y.tags(), 600 - 2 - 4);
        is("whole", y.takeWithin(0, 12, 4, 0, 16), 96);
        segments(y, 0, 0, 10, 0, 10, 4, 4, 14, 10, 0, 96, 12, 4);
    }

    private static void withinBounds() {
        Watched x = one(2, 0, 0, 100);
        x.bounds(0, 31, 51);
        is("LOW is no multiple", x.takeWithin(0, 8, 2, 0, 0), 32);
        is("from the lowest again", x.takeWithin(0, 11, 2, 0, 0), NONE);
        is("up to HIGH", x.takeWithin(0, 10, 2, 0, 0), 40);
        is("nothing left", x.takeWithin(0, 2, 2, 0, 0), NONE);
        x.bounds(0, 60, 60);
        is("nothing between", x.takeWithin(0, 1, 2, 0, 0), NONE);
        x.bounds(0, TOP, TOP);
        is("nothing at the top", x.takeWithin(0, 1, 2, 0, 0), NONE);
        x.bounds(0, 0, TOP);
        is("all again: the least segment", x.takeWithin(0, 2, 2, 0, 0), 0);
        is("bounds are not for take", x.take(0, 30, 0, 0), 2);
        Watched y = one(1, 0, 0, TOP);
        is("all numbers", y.takeWithin(0, TOP, TOP, 0, TOP), 0);
        y.giveWithin(0, 0, TOP);
        y.bounds(0, TOP - 8, TOP);
        is("the last ones", y.takeWithin(0, 8, 1, 0, 8), TOP - 8);
        is("they end the span", y.segment(0, 1, 0), TOP - 8);
    }

    private static void withinPurges() {
        Watched x = one(1, 1, 0, 8);
        x.take(0, 1, 0, 0);
        is("half is a slab", x.takeWithin(0, 8, 8, 0, 0), NONE);
        is("purged", x.count(0, 14), 1);
        x.give(0, 0, 1, 0);
        is("tried again", x.takeWithin(0, 7, 8, 1, 0), 1);
        is("purged again", x.count(0, 14), 2);
        segments(x, 0, 0, 1, 0, 1, 7, 4);
        Watched y = one(1, 1, 0, 9);
        y.take(0, 1, 0, 0);
        y.give(0, 0, 1, 0);
        is("a slab was given back, yet none", y.takeWithin(0, 8, 8, 4, 0), NONE);
        is("slabs", y.count(0, 10), 0);
        is("purged once", y.count(0, 14), 1);
    }

    private static void withinSources() {
        Watched x = one(8, 0, 0, 80);
        x.make(1, 0, 0);
        is("no source is asked", x.takeWithin(1, 1, 1, 0, 0), NONE);
        is("nothing was imported", x.count(1, 3), 0);
        x.take(1, 3, 0, 0);
        is("what is left of an import", x.takeWithin(1, 2, 2, 0, 0), 4);
        x.give(1, 0, 3, 0);
        is("its span stays", x.count(1, 12), 1);
        is("given back", x.giveWithin(1, 4, 2), 0);
        is("its span is no more", x.count(1, 12), 0);
        segments(x, 0, 0, 80, 0);
    }

    private static void withinWrong() {
        Watched x = one(4, 0, 0, 400);
        for (int n : new int[] {0, -1, MIN}) {
            illegal("size " + n, () -> x.takeWithin(0, n, 4, 0, 0));
        }
        for (int n : new int[] {0, 1, 2, 3, 6, 12, -4, MAX, MIN}) {
            illegal("align " + n, () -> x.takeWithin(0, 4, n, 0, 0));
        }
        for (int n : new int[] {1, 2, 3, 6, 12, -4, MAX, MIN}) {
            illegal("cross " + n, () -> x.takeWithin(0, 4, 4, 0, n));
        }
        for (int n : new int[] {1, 2, 6, 16, 20, -4, MAX, MIN}) {
            illegal("phase " + n, () -> x.takeWithin(0, 4, 16, n, 0));
        }
        segments(x, 0, 0, 400, 0);
        Watched y = chain(7);
        fillTo(y, 7, 39);
        is("full", y.takeWithin(0, 1, 1, 0, 0), FULL);
        is("full ahead of failing", y.takeWithin(0, MAX, 1, 0, 0), FULL);
        is("nothing was done", y.count(0, 14), 0);
        illegal("wrong, though full", () -> y.takeWithin(0, 0, 1, 0, 0));
    }

    private static void giveWithin() {
        sentence("promise 7");
        Watched x = one(4, 0, 0, 100);
        x.takeWithin(0, 10, 16, 4, 0);
        x.takeWithin(0, 10, 4, 0, 0);
        x.take(0, 8, 0, 0);
        segments(x, 0, 0, 4, 0, 4, 12, 4, 16, 12, 4, 28, 8, 1, 36, 64, 0);
        for (int size : new int[] {8, 13, 0, -12, MAX, MIN}) {
            illegal("size " + size, () -> x.giveWithin(0, 4, size));
        }
        for (int base : new int[] {0, 5, 8, 36, 100, -1, MAX, MIN}) {
            illegal("base " + base, () -> x.giveWithin(0, base, 12));
        }
        illegal("by take", () -> x.giveWithin(0, 28, 8));
        segments(x, 0, 0, 4, 0, 4, 12, 4, 16, 12, 4, 28, 8, 1, 36, 64, 0);
        is("size rounded up", x.giveWithin(0, 4, 9), 0);
        segments(x, 0, 0, 16, 0, 16, 12, 4, 28, 8, 1, 36, 64, 0);
        illegal("twice", () -> x.giveWithin(0, 4, 12));
        is("the other", x.giveWithin(0, 16, 12), 0);
        segments(x, 0, 0, 28, 0, 28, 8, 1, 36, 64, 0);
        Watched y = one(1, 4, 0, 100);
        is("a cached size by bounds", y.takeWithin(0, 2, 1, 0, 0), 0);
        is("goes to no cache", y.giveWithin(0, 0, 2), 0);
        segments(y, 0, 0, 100, 0);
    }

    private static void bounds() {
        sentence("promise 8");
        Watched x = one(1, 0, 0, 100);
        x.make(1, NONE, 0);
        x.add(1, 0, 100);
        x.bounds(0, 10, 20);
        illegal("low", () -> x.bounds(0, -1, 50));
        illegal("high below low", () -> x.bounds(0, 5, 4));
        illegal("high", () -> x.bounds(0, 0, TOP + 1));
        illegal("both", () -> x.bounds(0, MIN, MAX));
        is("the others stay", x.takeWithin(0, 11, 1, 0, 0), NONE);
        is("in them", x.takeWithin(0, 10, 1, 0, 0), 10);
        is("each arena has its own", x.takeWithin(1, 11, 1, 0, 0), 0);
        x.bounds(0, 0, 0);
        is("0 and 0", x.takeWithin(0, 1, 1, 0, 0), NONE);
        x.bounds(0, 0, TOP);
        is("from now on", x.takeWithin(0, 1, 1, 0, 0), 0);
    }

    private static void purge() {
        sentence("promise 9");
        Watched x = one(1, 0, 0, 100);
        is("without caches", x.purge(0), 0);
        is("purged", x.count(0, 14), 1);
        x.make(1, 0, 2);
        // slabs of 8: 0 of 1, 8 of 2, 16 of 1
        int[] ones = new int[9];
        for (int i = 0; i < 9; i++) {
            if (i == 1) {
                is("a slab of 2", x.take(1, 2, 0, 0), 8);
            }
            ones[i] = x.take(1, 1, 0, 0);
        }
        is("second slab of 1", ones[8], 16);
        x.give(1, 16, 1, 1);
        is("one of three", x.purge(1), 1);
        caches(x, 1, 1, 8, 0, 0, 0, 0, 0, 0, 1, NONE, NONE);
        for (int i = 0; i < 7; i++) {
            x.give(1, i, 1, i % 2);
        }
        is("not all of its objects lie", x.purge(1), 0);
        caches(x, 1, 1, 1, 0, 0, 0, 0, 0, 7, 1, NONE, NONE);
        x.give(1, 7, 1, 0);
        x.give(1, 8, 2, 1);
        is("both", x.purge(1), 2);
        is("no spans any more", x.count(1, 3), 0);
        is("purged", x.count(1, 14), 3);
        is("its source was not", x.count(0, 14), 1);
        segments(x, 0, 0, 100, 0);
        purgeOrder();
    }

    private static void purgeOrder() {
        // spans of a slab's size, so that all slabs come to one list and show the order
        Watched x = one(1, 2, 0, 8, 100, 8, 200, 8, 300, 8);
        is("1's", x.take(0, 1, 0, 0), 300);
        is("2's", x.take(0, 2, 0, 0), 200);
        for (int i = 1; i < 8; i++) {
            x.take(0, 1, 0, 0);
        }
        is("1's second", x.take(0, 1, 0, 0), 100);
        for (int i = 0; i < 8; i++) {
            x.give(0, 300 + i, 1, 0);
        }
        x.give(0, 100, 1, 0);
        x.give(0, 200, 2, 0);
        is("all", x.purge(0), 3);
        is("for i from 1 on, by bases: 2's is the latest", x.segment(0, 2, 4), 0);
        is("then 1's upper one", x.segment(0, 3, 4), 1);
        is("then 1's lower one", x.segment(0, 1, 4), 2);
        is("then what was free", x.segment(0, 0, 4), 3);
    }

    // ---------------------------------------------------------------- 10 to 14

    private static void tags() {
        sentence("promise 10");
        Watched x = new Watched();
        is("new", x.tags(), 600);
        x.make(1, NONE, 1);
        x.make(1, 0, 0);
        is("arenas have none", x.tags(), 600);
        x.add(0, 0, 100);
        is("a span and a segment", x.tags(), 598);
        x.take(0, 10, 0, 0);
        is("a segment more", x.tags(), 597);
        x.take(0, 1, 0, 0);
        is("a slab", x.tags(), 596);
        x.take(0, 1, 0, 0);
        is("an object has none", x.tags(), 596);
        x.take(1, 5, 0, 0);
        is("an import: two here, one there", x.tags(), 593);
        x.takeWithin(0, 4, 32, 0, 0);
        is("two more", x.tags(), 591);
        x.giveWithin(0, 32, 4);
        is("merged", x.tags(), 593);
        x.give(1, 14, 5, 0);
        is("the import is no more", x.tags(), 596);
        x.give(0, 10, 1, 0);
        x.give(0, 11, 1, 0);
        is("objects have none", x.tags(), 596);
        x.purge(0);
        is("the slab", x.tags(), 597);
        x.give(0, 0, 10, 0);
        is("all back", x.tags(), 598);
    }

    private static void count() {
        sentence("promise 11");
        Watched x = one(8, 2, 0, 400, 800, 80);
        x.make(2, 0, 1);
        x.take(0, 20, 2, 0);
        x.take(0, 3, 0, 0);
        x.take(0, 16, 0, 0);
        x.takeWithin(0, 24, 16, 8, 0);
        x.take(1, 5, 2, 0);
        x.take(1, 1, 0, 0);
        x.take(0, 500, 0, 0);
        x.take(1, 500, 0, 0);
        x.purge(1);
        segments(x, 0, 0, 24, 1, 24, 64, 2, 88, 24, 4, 112, 288, 0, 800, 64, 2, 864, 8, 3, 872, 8, 3);
        segments(x, 1, 864, 6, 1, 870, 2, 0, 872, 8, 2);
        counts(x, 0, 8, NONE, 2, 2, 7, 1, 288, 24 + 8 + 16 + 24, 16, 128, 2, 24, 0, 2, 2);
        counts(x, 1, 2, 0, 1, 2, 3, 1, 2, 6 + 2, 0, 8, 1, 870, 2, 1, 2);
        for (int what : new int[] {-1, 15, 16, MAX, MIN}) {
            noSuch("what " + what, () -> x.count(0, what));
            noArena("no arena, and what " + what, () -> x.count(2, what));
        }
    }

    private static void segment() {
        sentence("promise 12");
        Watched x = one(4, 1, 0, 400, 400, 40);
        x.make(1, 0, 0);
        x.take(0, 40, 2, 0);
        x.take(0, 4, 0, 0);
        x.take(1, 3, 0, 0);
        x.takeWithin(0, 8, 64, 0, 0);
        int[][] due = {
            {0, 40, 1, NONE, NONE, 0, 400, 0},
            {40, 24, 0, 2, 0, 0, 400, 0},
            {64, 8, 4, NONE, NONE, 0, 400, 0},
            {72, 328, 0, 6, 0, 0, 400, 0},
            {400, 16, 2, NONE, NONE, 400, 40, 0},
            {416, 4, 3, NONE, NONE, 400, 40, 0},
            {420, 20, 0, 2, 1, 400, 40, 0},
        };
        is("segments", x.count(0, 4), due.length);
        for (int i = 0; i < due.length && i < x.count(0, 4); i++) {
            for (int what = 0; what < 8; what++) {
                is("segment " + i + ", " + what, x.segment(0, i, what), due[i][what]);
            }
        }
        int[] above = {416, 3, 1, NONE, NONE, 416, 4, 1};
        int[] rest = {419, 1, 0, 0, 0, 416, 4, 1};
        for (int what = 0; what < 8; what++) {
            is("above, " + what, x.segment(1, 0, what), above[what]);
            is("the rest, " + what, x.segment(1, 1, what), rest[what]);
        }
        for (int n : new int[] {-1, 7, 8, MAX, MIN}) {
            noSuch("segment " + n, () -> x.segment(0, n, 0));
            noSuch("what " + n, () -> x.segment(0, 0, n == 7 ? 9 : n));
            noArena("no arena", () -> x.segment(2, n, 0));
        }
        Watched y = one(1, 0);
        noSuch("none at all", () -> y.segment(0, 0, 0));
    }

    private static void cache() {
        sentence("promise 13");
        Watched x = one(4, 3, 0, 400);
        x.make(1, 0, 0);
        caches(x, 0, 1, 0, 0, 0, 0, 0, 0, 0, 0, NONE, NONE);
        for (int i = 0; i < 6; i++) {
            x.take(0, 8, 0, i % 2);
        }
        caches(x, 0, 2, 6, 0, 0, 0, 0, 0, 2, 1, NONE, NONE);
        for (int i = 0; i < 5; i++) {
            x.give(0, 8 * i, 8, 1);
        }
        caches(x, 0, 2, 1, 0, 0, 2, 3, 0, 2, 1, NONE, 32);
        x.give(0, 40, 8, 0);
        caches(x, 0, 2, 0, 1, 0, 2, 3, 0, 2, 1, 40, 32);
        caches(x, 0, 1, 0, 0, 0, 0, 0, 0, 0, 0, NONE, NONE);
        caches(x, 0, 3, 0, 0, 0, 0, 0, 0, 0, 0, NONE, NONE);
        for (int n : new int[] {0, 4, -1, 8, 9, MAX, MIN}) {
            noSuch("cache " + n, () -> x.cache(0, n, 0));
            noArena("no arena", () -> x.cache(2, n, 0));
        }
        for (int n : new int[] {-1, 10, MAX, MIN}) {
            noSuch("what " + n, () -> x.cache(0, 1, n));
        }
        noSuch("an arena without", () -> x.cache(1, 1, 0));
    }

    private static void where() {
        sentence("promise 14");
        Watched x = one(2, 3, 10, 100, 200, 20);
        x.make(1, 0, 0);
        is("a slab of 16 quanta, 5 objects of 3", x.take(0, 6, 0, 0), 10);
        is("a client's", x.take(0, 20, 0, 0), 200);
        is("within", x.takeWithin(0, 7, 2, 0, 0), 42);
        is("above", x.take(1, 1, 0, 0), 50);
        int[][] due = {{-1, NONE}, {MIN, NONE}, {MAX, NONE}, {0, NONE}, {9, NONE}, {10, 1}, {15, 1}, {16, 2},
            {39, 2}, {40, 2}, {41, 2}, {42, 4}, {49, 4}, {50, 3}, {51, 3}, {52, 0}, {109, 0}, {110, NONE},
            {199, NONE}, {200, 1}, {219, 1}, {220, NONE}, {TOP, NONE}, {TOP - 1, NONE}};
        for (int[] d : due) {
            is("where " + d[0], x.where(0, d[0]), d[1]);
        }
        is("above, a client's", x.where(1, 50), 1);
        is("above, free", x.where(1, 51), 0);
        is("above, no span", x.where(1, 52), NONE);
        x.give(0, 10, 6, 0);
        is("in a magazine", x.where(0, 10), 2);
        x.purge(0);
        is("given back", x.where(0, 10), 0);
    }

    public static void main(String[] args) {
        newObject();
        make();
        add();
        take();
        give();
        takeWithin();
        giveWithin();
        bounds();
        purge();
        tags();
        count();
        segment();
        cache();
        where();
        finish();
    }
}
