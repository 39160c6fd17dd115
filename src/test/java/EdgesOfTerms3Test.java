/** Terms 3, CACHES, SLABS, magazines and DEPOTS, sentence by sentence: each boundary case with its neighbours. */
public final class EdgesOfTerms3Test extends Checks {
    /** The least power of two that is not below 3 c, for c from 0 on. */
    private static final int[] SLAB_QUANTA = {0, 4, 8, 16, 16, 16, 32, 32, 32};

    // ---------------------------------------------------------------- caches and slabs

    private static void cachedSizes() {
        sentence("Terms 3: CACHES, of an arena with CACHED c above 0: for each i from 1 to c");
        for (int q : new int[] {1, 16}) {
            for (int c = 0; c <= 8; c++) {
                for (int quanta = 1; quanta <= 9; quanta++) {
                    Watched x = one(q, c, 0, 64 * q);
                    is("take " + quanta + " of " + c, x.take(0, quanta * q, BEST, 0), 0);
                    boolean object = quanta <= c;
                    is("slabs", x.count(0, 10), object ? 1 : 0);
                    is("whose", x.segment(0, 0, 2), object ? 2 : 1);
                    is("its size", x.segment(0, 0, 1), (object ? SLAB_QUANTA[c] : quanta) * q);
                    is("a client holds", x.count(0, 7), quanta * q);
                    is("given", x.give(0, 0, quanta * q, 0), 0);
                    is("where it is", x.where(0, 0), object ? 2 : 0);
                }
            }
        }
    }

    private static void slabsOf(int c, int i) {
        int s = SLAB_QUANTA[c];
        int objects = s / i;
        String of = " of " + i + ", cached " + c;
        Watched x = one(1, c, 0, 2 * s);
        for (int n = 0; n < objects; n++) {
            is("object " + n + of, x.take(0, i, BEST, n % 2), n * i);
        }
        is("one slab" + of, x.cache(0, i, 7), 1);
        is("none lies" + of, x.cache(0, i, 6), 0);
        for (int rest = objects * i; rest < s; rest++) {
            is("behind the last object" + of, x.where(0, rest), 2);
        }
        is("the last object's end" + of, x.where(0, objects * i - 1), 1);
        is("the next one" + of, x.take(0, i, BEST, 0), s);
        is("two slabs" + of, x.cache(0, i, 7), 2);
        is("lying" + of, x.cache(0, i, 6), objects - 1);
        is("numbers in slabs" + of, x.count(0, 9), 2 * s);
        is("numbers that clients hold" + of, x.count(0, 7), (objects + 1) * i);

        Watched just = one(1, c, 0, s);
        for (int n = 0; n < objects; n++) {
            is("just so" + of, just.take(0, i, BEST, 0), n * i);
        }
        is("one more" + of, just.take(0, i, BEST, 0), NONE);
        is("a slab less one" + of, one(1, c, 0, s - 1).take(0, i, BEST, 0), NONE);
        Watched more = one(1, c, 0, s + 1);
        is("a slab and one" + of, more.take(0, i, BEST, 0), 0);
        segments(more, 0, 0, s, 2, s, 1, 0);
    }

    private static void slabs() {
        sentence("Terms 3: of s QUANTA, the least power of two not below 3 c; a SLAB of i has s / i OBJECTS");
        for (int c = 1; c <= 8; c++) {
            for (int i = 1; i <= c; i++) {
                slabsOf(c, i);
            }
        }
        Watched large = one(65536, 8, 0, 32 * 65536);
        is("the greatest quantum", large.take(0, 8 * 65536, BEST, 0), 0);
        is("its second", large.take(0, 7 * 65536 + 1, BEST, 0), 8 * 65536);
        is("its slab", large.count(0, 9), 32 * 65536);
        illegal("the rest behind the last object", () -> one(1, 3, 0, 16).give(0, 15, 3, 0));
    }

    private static void slabsAreInstant() {
        sentence("Terms 3: SLABS: a segment TAKEN by INSTANT");
        Watched x = one(1, 2, 0, 8, 20, 7, 40, 15, 60, 16);
        is("the latest in list 3, not the least", x.take(0, 1, BEST, 0), 40);
        is("7 of it are left", x.take(0, 2, BEST, 0), 0);
        for (int n = 1; n < 8; n++) {
            x.take(0, 1, NEXT, 0);
        }
        is("list 3 is empty, so list 4", x.take(0, 1, NEXT, 0), 60);
        is("the way has no say", x.count(0, 11), 0);
        Watched above = one(16, 0, 0, 64);
        above.make(1, 0, 1);
        is("imported", above.take(1, 1, BEST, 0), 0);
        segments(above, 1, 0, 4, 2, 4, 12, 0);
        segments(above, 0, 0, 16, 3, 16, 48, 0);
        Watched small = one(1, 0, 0, 64);
        small.make(1, 0, 1);
        is("imported whole", small.take(1, 1, BEST, 0), 0);
        segments(small, 1, 0, 4, 2);
    }

    // ---------------------------------------------------------------- OUT

    /** Takes so many single OBJECTS at DESK 0; they are 0, 1, 2 and so on, in SLABS of 4. */
    private static Watched taken(int objects) {
        Watched x = one(1, 1, 0, 64);
        for (int n = 0; n < objects; n++) {
            is("object", x.take(0, 1, BEST, 0), n);
        }
        return x;
    }

    private static void giveAll(Watched x, int from, int to, int desk) {
        for (int n = from; n < to; n++) {
            is("give " + n, x.give(0, n, 1, desk), 0);
        }
    }

    private static void takeAll(Watched x, int desk, int... due) {
        for (int n = 0; n < due.length; n++) {
            is("out " + n, x.take(0, 1, BEST, desk), due[n]);
        }
    }

    private static void outOfLoaded() {
        sentence("Terms 3: OUT: the top of LOADED, if it has one");
        Watched x = taken(8);
        giveAll(x, 0, 3, 0);
        caches(x, 0, 1, 5, 3, 0, 0, 0, 0, 0, 2, 2, NONE);
        takeAll(x, 0, 2);
        caches(x, 0, 1, 6, 2, 0, 0, 0, 0, 0, 2, 1, NONE);
        takeAll(x, 0, 1);
        caches(x, 0, 1, 7, 1, 0, 0, 0, 0, 0, 2, 0, NONE);
        takeAll(x, 0, 0);
        caches(x, 0, 1, 8, 0, 0, 0, 0, 0, 0, 2, NONE, NONE);
        takeAll(x, 0, 8);
        caches(x, 0, 1, 9, 0, 0, 0, 0, 0, 3, 3, NONE, NONE);

        sentence("Terms 3: two DESKS: each has its own LOADED and SPARE");
        Watched y = taken(8);
        giveAll(y, 0, 2, 0);
        giveAll(y, 4, 6, 1);
        caches(y, 0, 1, 4, 2, 0, 2, 0, 0, 0, 2, 1, 5);
        takeAll(y, 1, 5, 4, 8);
        caches(y, 0, 1, 7, 2, 0, 0, 0, 0, 3, 3, 1, NONE);
        takeAll(y, 0, 1, 0, 9);
    }

    private static void outOfSpare() {
        sentence("Terms 3: OUT: else, if SPARE has one, both are exchanged, and so");
        Watched x = taken(8);
        giveAll(x, 0, 4, 0);
        caches(x, 0, 1, 4, 1, 3, 0, 0, 0, 0, 2, 3, NONE);
        takeAll(x, 0, 3);
        caches(x, 0, 1, 5, 0, 3, 0, 0, 0, 0, 2, NONE, NONE);
        takeAll(x, 0, 2);
        caches(x, 0, 1, 6, 2, 0, 0, 0, 0, 0, 2, 1, NONE);
        takeAll(x, 0, 1, 0, 8);
        Watched both = taken(12);
        giveAll(both, 0, 7, 0);
        caches(both, 0, 1, 5, 1, 3, 0, 0, 1, 0, 3, 6, NONE);
        takeAll(both, 0, 6, 5);
        caches(both, 0, 1, 7, 2, 0, 0, 0, 1, 0, 3, 4, NONE);
        takeAll(both, 0, 4, 3);
        caches(both, 0, 1, 9, 0, 0, 0, 0, 1, 0, 3, NONE, NONE);
    }

    private static void outOfDepot() {
        sentence("Terms 3: OUT: else, if the DEPOT has a magazine, LOADED becomes SPARE, the DEPOT's top LOADED");
        Watched x = taken(16);
        giveAll(x, 0, 13, 0);
        caches(x, 0, 1, 3, 1, 3, 0, 0, 3, 0, 4, 12, NONE);
        is("the latest magazine, its latest object", x.take(0, 1, BEST, 1), 8);
        caches(x, 0, 1, 4, 1, 3, 2, 0, 2, 0, 4, 12, 7);
        takeAll(x, 1, 7, 6);
        caches(x, 0, 1, 6, 1, 3, 0, 0, 2, 0, 4, 12, NONE);
        takeAll(x, 0, 12, 11, 10, 9);
        caches(x, 0, 1, 10, 0, 0, 0, 0, 2, 0, 4, NONE, NONE);
        takeAll(x, 0, 5);
        caches(x, 0, 1, 11, 2, 0, 0, 0, 1, 0, 4, 4, NONE);
        takeAll(x, 1, 2);
        caches(x, 0, 1, 12, 2, 0, 2, 0, 0, 0, 4, 4, 1);
        takeAll(x, 1, 1, 0);
        is("the DEPOT has none: a SLAB", x.take(0, 1, BEST, 1), 16);
        caches(x, 0, 1, 15, 2, 0, 0, 0, 0, 3, 5, 4, NONE);

        sentence("Terms 3: OUT: the DEPOT ahead of what lies in SLABS");
        Watched y = taken(17);
        giveAll(y, 4, 11, 0);
        caches(y, 0, 1, 10, 1, 3, 0, 0, 1, 3, 5, 10, NONE);
        takeAll(y, 1, 6, 5, 4, 17);
    }

    private static void outOfSlabs() {
        sentence("Terms 3: OUT: else the lowest OBJECT that lies in a SLAB of i (of all of the arena's SLABS of i)");
        Watched x = taken(12);
        giveAll(x, 9, 10, 0);
        giveAll(x, 6, 7, 1);
        giveAll(x, 2, 4, 0);
        is("nothing whole", x.purge(0), 0);
        caches(x, 0, 1, 8, 0, 0, 0, 0, 0, 4, 3, NONE, NONE);
        takeAll(x, 1, 2, 3, 6);
        takeAll(x, 0, 9);
        takeAll(x, 1, 12);
        Watched of = one(1, 2, 0, 64);
        is("a slab of 2", of.take(0, 2, BEST, 0), 0);
        is("a slab of 1", of.take(0, 1, BEST, 0), 8);
        is("of 2, not of 1", of.take(0, 2, BEST, 0), 2);
        is("of 1, not of 2", of.take(0, 1, BEST, 0), 9);

        sentence("Terms 3: OUT: if there is none, a SLAB is TAKEN, and its first one");
        Watched lower = one(1, 1, 8, 4, 0, 4);
        takeAll(lower, 0, 0, 1, 2, 3, 8, 9);
        give(lower, 0, 1, 1);
        is("nothing whole", lower.purge(0), 0);
        takeAll(lower, 0, 1, 10, 11);
        is("no room", lower.take(0, 1, BEST, 0), NONE);
        failedAndPurged("no room", lower, 0, 1, 2);
    }

    private static void outFails() {
        sentence("Terms 3: OUT: if that fails, so does this");
        Watched x = one(1, 1, 0, 4);
        takeAll(x, 0, 0, 1, 2, 3, NONE);
        failedAndPurged("no room", x, 0, 1, 1);
        give(x, 0, 3, 1);
        is("the other desk has one, but this has none, nor has the slab", x.take(0, 1, BEST, 1), NONE);
        failedAndPurged("it was purged", x, 0, 2, 2);
        caches(x, 0, 1, 3, 0, 0, 0, 0, 0, 1, 1, NONE, NONE);
        takeAll(x, 1, 3);

        sentence("Terms 3: OUT: a SLAB is TAKEN after the caches were PURGED for it");
        Watched y = one(1, 2, 0, 16);
        is("a slab of 1", y.take(0, 1, BEST, 0), 0);
        for (int n = 1; n < 8; n++) {
            y.take(0, 1, BEST, 0);
        }
        is("a slab of 2", y.take(0, 2, BEST, 0), 8);
        y.give(0, 8, 2, 1);
        y.give(0, 5, 1, 1);
        is("the new slab's first one, not the one that lies lower now", y.take(0, 1, BEST, 0), 8);
        caches(y, 0, 1, 8, 0, 0, 0, 0, 0, 8, 2, NONE, NONE);
        caches(y, 0, 2, 0, 0, 0, 0, 0, 0, 0, 0, NONE, NONE);
        failedAndPurged("served", y, 0, 0, 1);
        is("then the lowest", y.take(0, 1, BEST, 0), 5);
    }

    // ---------------------------------------------------------------- INTO

    private static void intoMagazines() {
        sentence("Terms 3: INTO: on top of LOADED, if it has less than 3; else, if SPARE has none, both are exchanged");
        for (int desk = 0; desk < 2; desk++) {
            Watched x = taken(8);
            int[][] due = {{1, 0}, {2, 0}, {3, 0}, {1, 3}, {2, 3}, {3, 3}};
            for (int n = 0; n < due.length; n++) {
                giveAll(x, n, n + 1, desk);
                is("loaded after " + n, x.cache(0, 1, 1 + 2 * desk), due[n][0]);
                is("spare after " + n, x.cache(0, 1, 2 + 2 * desk), due[n][1]);
                is("the other desk", x.cache(0, 1, 3 - 2 * desk) + x.cache(0, 1, 4 - 2 * desk), 0);
                is("on top", x.cache(0, 1, 8 + desk), n);
                is("depot", x.cache(0, 1, 5), 0);
            }
            giveAll(x, 6, 7, desk);
            is("loaded after 7", x.cache(0, 1, 1 + 2 * desk), 1);
            is("spare after 7", x.cache(0, 1, 2 + 2 * desk), 3);
            is("depot after 7", x.cache(0, 1, 5), 1);
            takeAll(x, desk, 6, 5, 4, 3, 2, 1, 0, 8);
        }
        Watched again = taken(8);
        giveAll(again, 0, 4, 0);
        takeAll(again, 0, 3, 2);
        caches(again, 0, 1, 6, 2, 0, 0, 0, 0, 0, 2, 1, NONE);
        giveAll(again, 4, 5, 0);
        caches(again, 0, 1, 5, 3, 0, 0, 0, 0, 0, 2, 4, NONE);
        giveAll(again, 5, 6, 0);
        caches(again, 0, 1, 4, 1, 3, 0, 0, 0, 0, 2, 5, NONE);
    }

    private static void intoDepot() {
        sentence("Terms 3: INTO: else, if the DEPOT has less than 4, SPARE goes there, LOADED becomes SPARE");
        Watched x = taken(36);
        for (int full = 0; full <= 4; full++) {
            int given = 6 + 3 * full;
            giveAll(x, full == 0 ? 0 : given - 3, given, 0);
            caches(x, 0, 1, 36 - given, 3, 3, 0, 0, full, 0, 9, given - 1, NONE);
        }

        sentence("Terms 3: INTO: else it lies in its SLAB");
        giveAll(x, 18, 19, 0);
        caches(x, 0, 1, 17, 3, 3, 0, 0, 4, 1, 9, 17, NONE);
        giveAll(x, 19, 20, 0);
        caches(x, 0, 1, 16, 3, 3, 0, 0, 4, 2, 9, 17, NONE);
        giveAll(x, 20, 26, 1);
        caches(x, 0, 1, 10, 3, 3, 3, 3, 4, 2, 9, 17, 25);
        giveAll(x, 26, 27, 1);
        caches(x, 0, 1, 9, 3, 3, 3, 3, 4, 3, 9, 17, 25);
        takeAll(x, 0, 17);
        giveAll(x, 27, 28, 0);
        caches(x, 0, 1, 9, 3, 3, 3, 3, 4, 3, 9, 27, 25);
        giveAll(x, 28, 29, 0);
        caches(x, 0, 1, 8, 3, 3, 3, 3, 4, 4, 9, 27, 25);
        takeAll(x, 0, 27, 16, 15, 14, 13, 12, 11);
        caches(x, 0, 1, 15, 2, 0, 3, 3, 3, 4, 9, 10, 25);
        giveAll(x, 29, 30, 1);
        caches(x, 0, 1, 14, 2, 0, 1, 3, 4, 4, 9, 10, 29);
        takeAll(x, 0, 10, 9);
        is("what desk 1 put into the depot", x.take(0, 1, BEST, 0), 22);
        takeAll(x, 0, 21, 20, 8, 7, 6, 5, 4, 3, 2, 1, 0, 18, 19, 26, 28, 36);
    }

    private static void spareIsEmptyOrFull() {
        sentence("Terms 3: INTO: (A SPARE that has some, but isn't full) does not come about by OUT and INTO");
        int seed = 1;
        for (int run = 0; run < 60; run++) {
            Watched x = one(1, 1, 0, 200);
            boolean[] held = new boolean[200];
            while (x.callsLeft() >= 3) {
                seed = seed * 1103515245 + 12345;
                int dice = seed >>> 16 & 1023;
                int desk = dice & 1;
                boolean taking = dice / 2 % 16 < (run % 2 == x.callsLeft() / 128 % 2 ? 5 : 11);
                int first = 0;
                while (first < 199 && !held[first]) {
                    first++;
                }
                if (taking || !held[first]) {
                    int got = x.take(0, 1, BEST, desk);
                    is("one that no client holds", got >= 0 && !held[got] ? 0 : 1, 0);
                    held[Math.max(0, got)] = true;
                } else {
                    x.give(0, first, 1, desk);
                    held[first] = false;
                }
                is("the rest of 3 in SPARE", x.cache(0, 1, 2) % 3 + x.cache(0, 1, 4) % 3, 0);
            }
        }
    }

    // ---------------------------------------------------------------- TO PURGE

    private static void purgeLaysAll() {
        sentence("Terms 3: TO PURGE: all OBJECTS of all magazines go to their SLABS");
        Watched x = taken(36);
        giveAll(x, 0, 18, 0);
        giveAll(x, 20, 26, 1);
        caches(x, 0, 1, 12, 3, 3, 3, 3, 4, 0, 9, 17, 25);
        is("0 to 15 and 20 to 23 are whole slabs", x.purge(0), 5);
        caches(x, 0, 1, 12, 0, 0, 0, 0, 0, 4, 4, NONE, NONE);
        segments(x, 0, 0, 16, 0, 16, 4, 2, 20, 4, 0, 24, 4, 2, 28, 4, 2, 32, 4, 2, 36, 28, 0);
        is("again: nothing", x.purge(0), 0);
        takeAll(x, 0, 16, 17, 24, 25);
        is("then a slab", x.take(0, 1, BEST, 0) % 4, 0);
        is("purged", x.count(0, 14), 2);
    }

    private static void purgeGivesWholeSlabs() {
        sentence("Terms 3: TO PURGE: each SLAB in which all of its OBJECTS lie is GIVEN BACK");
        for (int c = 1; c <= 8; c++) {
            int s = SLAB_QUANTA[c];
            for (int i = 1; i <= c; i++) {
                int objects = s / i;
                Watched x = one(1, c, 0, s);
                for (int n = 0; n < objects; n++) {
                    x.take(0, i, BEST, 0);
                }
                is("none lies", x.purge(0), 0);
                for (int n = 0; n < objects - 1; n++) {
                    x.give(0, n * i, i, n % 2);
                }
                is("all but the last", x.purge(0), 0);
                is("they lie", x.cache(0, i, 6), objects - 1);
                x.give(0, (objects - 1) * i, i, 1);
                is("all", x.purge(0), 1);
                segments(x, 0, 0, s, 0);
                caches(x, 0, i, 0, 0, 0, 0, 0, 0, 0, 0, NONE, NONE);
            }
        }
        Watched fresh = taken(1);
        is("one is held, three lie", fresh.purge(0), 0);
        give(fresh, 0, 0, 1);
        is("one is in a magazine, three lie", fresh.purge(0), 1);

        sentence("Terms 3: TO PURGE an arena without caches, or whose caches are empty");
        is("none", one(1, 0, 0, 8).purge(0), 0);
        is("empty", one(1, 8, 0, 8).purge(0), 0);
        is("no SPANS", one(1, 8).purge(0), 0);
    }

    private static void purgeOrder() {
        sentence("Terms 3: TO PURGE: for i from 1 on; then each SLAB, by bases");
        // the lists show the order: a SLAB is a whole SPAN here
        Watched x = one(1, 2, 0, 8, 10, 8, 20, 8, 30, 8, 40, 8);
        is("of 1", x.take(0, 1, BEST, 0), 40);
        is("of 2", x.take(0, 2, BEST, 0), 30);
        for (int n = 1; n < 8; n++) {
            x.take(0, 1, BEST, 0);
        }
        is("of 1 again", x.take(0, 1, BEST, 0), 20);
        for (int n = 1; n < 4; n++) {
            x.take(0, 2, BEST, 0);
        }
        is("of 2 again", x.take(0, 2, BEST, 0), 10);
        x.give(0, 20, 1, 0);
        for (int n = 0; n < 8; n++) {
            x.give(0, 40 + n, 1, 0);
        }
        x.give(0, 10, 2, 0);
        for (int n = 0; n < 4; n++) {
            x.give(0, 30 + 2 * n, 2, 0);
        }
        is("all four", x.purge(0), 4);
        // given back: 20, 40, then 10, 30
        ahead(x, 0, 4, 1, 3, 0, 2);
    }

    public static void main(String[] args) {
        cachedSizes();
        slabs();
        slabsAreInstant();
        outOfLoaded();
        outOfSpare();
        outOfDepot();
        outOfSlabs();
        outFails();
        intoMagazines();
        intoDepot();
        spareIsEmptyOrFull();
        purgeLaysAll();
        purgeGivesWholeSlabs();
        purgeOrder();
        finish();
    }
}
