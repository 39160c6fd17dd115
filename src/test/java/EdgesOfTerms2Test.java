/** Terms 2, TO TAKE and TO GIVE BACK, sentence by sentence: each boundary case with its neighbours. */
public final class EdgesOfTerms2Test extends Checks {

    // ---------------------------------------------------------------- the three ways

    private static void best() {
        sentence("Terms 2: BEST: the least one that is large enough");
        Watched x = one(1, 0, 0, 9, 20, 12, 40, 11, 60, 10);
        is("9 is too small by one, 10 is just so", x.take(0, 10, BEST, 0), 60);
        is("then 11", x.take(0, 10, BEST, 0), 40);
        is("then 12", x.take(0, 10, BEST, 0), 20);
        is("then none", x.take(0, 10, BEST, 0), NONE);
        is("9 is there still", x.take(0, 9, BEST, 0), 0);
        is("the rests: 2 of them", x.take(0, 2, BEST, 0), 30);
        is("the rests: 1 of them", x.take(0, 1, BEST, 0), 50);
        is("nothing is left", x.take(0, 1, BEST, 0), NONE);

        sentence("Terms 2: BEST: of several the lowest");
        int[][] orders = {{0, 20, 40}, {40, 20, 0}, {20, 0, 40}, {20, 40, 0}};
        for (int[] order : orders) {
            Watched y = one(1, 0, order[0], 8, order[1], 8, order[2], 8, 60, 9);
            is("first", y.take(0, 8, BEST, 0), 0);
            is("second", y.take(0, 7, BEST, 0), 20);
            is("third", y.take(0, 8, BEST, 0), 40);
            is("then 9", y.take(0, 8, BEST, 0), 60);
        }
    }

    private static void instantLists() {
        sentence("Terms 2: INSTANT: from the LIST k on whose 2^k QUANTA are the least power not below the size");
        for (int shift : new int[] {0, 3}) {
            int q = 1 << shift;
            for (int k = 1; k < 10; k++) {
                int power = 1 << k;
                // one with 2^k quanta, one with all but one quantum of 2^(k+1): both in list k
                int[] there = {power, 2 * power - 1};
                for (int quanta : there) {
                    String in = " of " + quanta + " quanta";
                    is("a quantum less than 2^k" + in, one(q, 0, 0, quanta * q).take(0, (power - 1) * q, INSTANT, 0), 0);
                    is("2^k" + in, one(q, 0, 0, quanta * q).take(0, power * q, INSTANT, 0), 0);
                    is("a number more" + in, one(q, 0, 0, quanta * q).take(0, power * q + 1, INSTANT, 0), NONE);
                }
                is("2^k out of a quantum less", one(q, 0, 0, (power - 1) * q).take(0, power * q, INSTANT, 0), NONE);
                is("best has it", one(q, 0, 0, (2 * power - 1) * q).take(0, (2 * power - 1) * q, BEST, 0), 0);
                is("next has it", one(q, 0, 0, (2 * power - 1) * q).take(0, (2 * power - 1) * q, NEXT, 0), 0);
            }
        }
        is("the least size of all", one(1, 0, 0, 1).take(0, 1, INSTANT, 0), 0);
        is("all numbers", one(1, 0, 0, TOP).take(0, TOP, INSTANT, 0), 0);
        is("2^29 + 1 of all numbers", one(1, 0, 0, TOP).take(0, TOP / 2 + 1, INSTANT, 0), 0);
        is("2^29 + 1 of all but one", one(1, 0, 0, TOP - 1).take(0, TOP / 2 + 1, INSTANT, 0), NONE);
        is("2^29 of all but one", one(1, 0, 0, TOP - 1).take(0, TOP / 2, INSTANT, 0), 0);
    }

    private static void instantFirst() {
        sentence("Terms 2: INSTANT: of the first LIST that has one: the first");
        Watched x = one(1, 0, 0, 8, 20, 64, 100, 15, 120, 9, 140, 32, 180, 3);
        is("list 3's latest, not the least, not the lowest", x.take(0, 8, INSTANT, 0), 120);
        is("then the one that came ahead of it", x.take(0, 8, INSTANT, 0), 100);
        is("then the first that came", x.take(0, 8, INSTANT, 0), 0);
        is("list 3 and 4 are empty: list 5, though 6 came earlier", x.take(0, 8, INSTANT, 0), 140);
        is("list 4 now has its rest of 24", x.take(0, 8, INSTANT, 0), 148);
        is("list 4 has the rest of 16", x.take(0, 8, INSTANT, 0), 156);
        is("list 3 has the last 8", x.take(0, 8, INSTANT, 0), 164);
        is("list 6", x.take(0, 8, INSTANT, 0), 20);
        is("56 is of list 5", x.take(0, 33, INSTANT, 0), NONE);
        is("32 is in it", x.take(0, 32, INSTANT, 0), 28);
    }

    private static void nextFromTheRotor() {
        sentence("Terms 2: NEXT: THE ROTOR of the arena is 0 at first");
        Watched x = one(1, 0, 0, 4, 10, 4);
        is("at first", x.count(0, 11), 0);
        is("a segment at 0 is at it", x.take(0, 4, NEXT, 0), 0);
        is("after NEXT it is the end of what was taken", x.count(0, 11), 4);

        sentence("Terms 2: NEXT: of those large enough the lowest one at or above THE ROTOR");
        Watched at = one(1, 0, 10, 8, 30, 8);
        is("2 of the first", at.take(0, 2, NEXT, 0), 10);
        is("what begins at the rotor", at.take(0, 2, NEXT, 0), 12);
        Watched below = one(1, 0, 11, 8, 30, 8);
        is("1 of the first", below.take(0, 1, NEXT, 0), 11);
        give(below, 0, 11, 1);
        is("the rotor stays at a give", below.count(0, 11), 12);
        is("what begins one below the rotor is passed", below.take(0, 2, NEXT, 0), 30);
        Watched above = one(1, 0, 5, 4, 10, 1, 12, 4);
        is("4 of the first", above.take(0, 4, NEXT, 0), 5);
        is("1 of the second", above.take(0, 1, NEXT, 0), 10);
        give(above, 0, 5, 4);
        is("what begins one above the rotor", above.take(0, 2, NEXT, 0), 12);
        Watched large = one(1, 0, 10, 8, 20, 3, 30, 4, 40, 5);
        is("8", large.take(0, 8, NEXT, 0), 10);
        is("3 is too small by one, 4 is just so", large.take(0, 4, NEXT, 0), 30);
        is("5 at or above", large.take(0, 4, NEXT, 0), 40);
        is("then none of 4", large.take(0, 4, NEXT, 0), NONE);
        is("3 is there", large.take(0, 3, NEXT, 0), 20);
    }

    private static void nextTurnsRound() {
        sentence("Terms 2: NEXT: if there is none the lowest");
        Watched x = one(1, 0, 0, 3, 10, 5, 20, 5, 30, 5);
        is("10", x.take(0, 5, NEXT, 0), 10);
        is("20", x.take(0, 5, NEXT, 0), 20);
        is("30", x.take(0, 5, NEXT, 0), 30);
        is("the rotor is behind all", x.count(0, 11), 35);
        is("none at all", x.take(0, 5, NEXT, 0), NONE);
        is("a failed one leaves the rotor", x.count(0, 11), 35);
        give(x, 0, 20, 5);
        give(x, 0, 10, 5);
        is("the lowest that is large enough, not 0", x.take(0, 4, NEXT, 0), 10);
        is("the rotor turned round", x.count(0, 11), 14);
        is("from there on", x.take(0, 3, NEXT, 0), 20);
        is("round again", x.take(0, 3, NEXT, 0), 0);
        is("the rotor", x.count(0, 11), 3);

        sentence("Terms 2: NEXT: THE ROTOR at the end of all numbers");
        Watched y = one(1, 0, 0, 8, TOP - 8, 8);
        y.take(0, 8, NEXT, 0);
        is("the last but one", y.take(0, 7, NEXT, 0), TOP - 8);
        is("the rotor", y.count(0, 11), TOP - 1);
        is("the last number", y.take(0, 1, NEXT, 0), TOP - 1);
        is("the rotor is behind all numbers", y.count(0, 11), TOP);
        give(y, 0, 0, 8);
        is("round", y.take(0, 1, NEXT, 0), 0);
        is("the rotor is 1", y.count(0, 11), 1);
    }

    private static void onlyNextMovesTheRotor() {
        sentence("Terms 2: After NEXT THE ROTOR is the end of what was taken (and after nothing else)");
        Watched x = one(1, 1, 0, 100);
        x.make(1, 0, 0);
        is("next", x.take(0, 10, NEXT, 0), 0);
        x.take(0, 10, BEST, 0);
        is("best", x.count(0, 11), 10);
        x.take(0, 10, INSTANT, 0);
        is("instant", x.count(0, 11), 10);
        x.takeWithin(0, 10, 1, 0, 0);
        is("bounds", x.count(0, 11), 10);
        x.take(0, 1, NEXT, 0);
        is("a cached size", x.count(0, 11), 10);
        is("for an arena above", x.take(1, 10, NEXT, 0), 44);
        is("the source's rotor", x.count(0, 11), 10);
        is("the rotor of the one above: what was taken was IMPORTED", x.count(1, 11), 54);
        give(x, 0, 0, 10);
        x.giveWithin(0, 30, 10);
        x.purge(0);
        is("give, giveWithin, purge", x.count(0, 11), 10);
        is("a size that is too large", x.take(0, TOP + 1, NEXT, 0), NONE);
        is("failed", x.count(0, 11), 10);
        illegal("wrong", () -> x.take(0, 0, NEXT, 0));
        is("refused", x.count(0, 11), 10);
        Watched q = one(16, 0, 0, 160);
        q.take(0, 17, NEXT, 0);
        is("the end of what was taken is rounded up", q.count(0, 11), 32);
    }

    private static void lowestPart() {
        sentence("Terms 2: Its lowest part is TAKEN, what is left is FREE");
        for (int way = 0; way < 3; way++) {
            Watched all = one(4, 0, 16, 16);
            is("all", all.take(0, 16, way, 0), 16);
            segments(all, 0, 16, 16, 1);
            Watched less = one(4, 0, 16, 16);
            is("a quantum less", less.take(0, 12, way, 0), 16);
            segments(less, 0, 16, 12, 1, 28, 4, 0);
            Watched least = one(4, 0, 16, 16);
            is("one quantum", least.take(0, 1, way, 0), 16);
            segments(least, 0, 16, 4, 1, 20, 12, 0);
        }
    }

    // ---------------------------------------------------------------- imports

    private static Watched over(int sourceQuantum, int quantum, int... spans) {
        Watched x = one(sourceQuantum, 0, spans);
        x.make(quantum, 0, 0);
        return x;
    }

    private static void importsIfThereIsNone() {
        sentence("Terms 2: If there is none: if the arena has a SOURCE, the size is TAKEN from the SOURCE");
        Watched x = over(16, 1, 0, 160);
        is("an import of 16", x.take(1, 10, BEST, 0), 0);
        is("6 are left: just so, no import", x.take(1, 6, BEST, 0), 10);
        is("spans", x.count(1, 12), 1);
        give(x, 1, 10, 6);
        is("7 are one too many", x.take(1, 7, BEST, 0), 16);
        is("spans then", x.count(1, 12), 2);
        segments(x, 1, 0, 10, 1, 10, 6, 0, 16, 7, 1, 23, 9, 0);
        segments(x, 0, 0, 16, 3, 16, 16, 3, 32, 128, 0);
        is("9 by instant need list 4: an import, though 9 are free", x.take(1, 9, INSTANT, 0), 32);
        is("9 by best", x.take(1, 9, BEST, 0), 23);
        is("no arena above has what a client takes", x.count(0, 8), 48);
        is("nothing was purged", x.count(1, 14) + x.count(0, 14), 0);
    }

    private static void importsAreRoundedUp() {
        sentence("Terms 2: the size, rounded up to the SOURCE's QUANTUM if that is greater");
        int[][] due = {{1, 4, 16}, {12, 12, 16}, {15, 16, 16}, {16, 16, 16}, {17, 20, 32}, {32, 32, 32}, {33, 36, 48}};
        for (int[] d : due) {
            Watched x = over(16, 4, 160, 320);
            is("take " + d[0], x.take(1, d[0], BEST, 0), 160);
            if (d[1] == d[2]) {
                segments(x, 1, 160, d[1], 1);
            } else {
                segments(x, 1, 160, d[1], 1, 160 + d[1], d[2] - d[1], 0);
            }
            segments(x, 0, 160, d[2], 3, 160 + d[2], 320 - d[2], 0);
            is("the span's size", x.segment(1, 0, 6), d[2]);
            is("it was imported", x.segment(1, 0, 7), 1);
            Watched same = over(4, 4, 160, 320);
            same.take(1, d[0], BEST, 0);
            segments(same, 1, 160, d[1], 1);
        }
        Watched all = over(65536, 1, 0, TOP);
        is("one less than all", all.take(1, TOP - 1, NEXT, 0), 0);
        segments(all, 1, 0, TOP - 1, 1, TOP - 1, 1, 0);
        segments(all, 0, 0, TOP, 3);
        is("the last number", all.take(1, 1, NEXT, 0), TOP - 1);
        is("nothing more", all.take(1, 1, NEXT, 0), NONE);
    }

    private static void importsAreInstant() {
        sentence("Terms 2: TAKEN from the SOURCE by INSTANT");
        for (int way = 0; way < 3; way++) {
            Watched x = over(1, 1, 0, 5, 100, 8, 200, 9);
            is("5 are passed, 9 came later than 8", x.take(1, 5, way, 0), 200);
            is("then 8", x.take(1, 5, way, 0), 100);
            is("then none, though 5 are free", x.take(1, 5, way, 0), NONE);
            failedAndPurged("its source", x, 0, 1, 1);
            failedAndPurged("itself", x, 1, 1, 1);
            is("4 are in list 2: the one that came last, the rest of 9", x.take(1, 4, way, 0), 205);
        }

        sentence("Terms 2: a SPAN more, IMPORTED, whose lowest part is TAKEN, whatever the way");
        Watched x = over(8, 1, 0, 64);
        is("5 by instant, out of an import of 8", x.take(1, 5, INSTANT, 0), 0);
        Watched y = over(1, 1, 0, 64);
        is("5 by instant, out of an import of 5 that its own list would not give", y.take(1, 5, INSTANT, 0), 0);
        segments(y, 1, 0, 5, 1);
        Watched z = over(8, 1, 0, 8, 96, 8, 64, 8);
        is("next, the last span first", z.take(1, 6, NEXT, 0), 64);
        is("rotor", z.count(1, 11), 70);
        is("next", z.take(1, 6, NEXT, 0), 96);
        is("rotor on", z.count(1, 11), 102);
        is("an import below the rotor", z.take(1, 6, NEXT, 0), 0);
        is("the rotor goes back", z.count(1, 11), 6);
        is("what is left of it is free", z.take(1, 2, NEXT, 0), 6);
    }

    private static void importsGoDown() {
        sentence("Terms 2: from the SOURCE (likewise, with all of this)");
        Watched x = new Watched();
        int[] quanta = {64, 16, 16, 4};
        for (int i = 0; i < quanta.length; i++) {
            x.make(quanta[i], i - 1, 0);
        }
        is("all are empty", x.take(3, 5, BEST, 0), NONE);
        for (int i = 0; i < quanta.length; i++) {
            failedAndPurged("an empty bottom", x, i, 1, 1);
        }
        x.add(0, 128, 128);
        is("5 of 4s", x.take(3, 5, BEST, 0), 128);
        segments(x, 0, 128, 64, 3, 192, 64, 0);
        segments(x, 1, 128, 16, 3, 144, 48, 0);
        segments(x, 2, 128, 16, 3);
        segments(x, 3, 128, 8, 1, 136, 8, 0);
        is("50: not in the middle's 48, so from the bottom", x.take(3, 50, BEST, 0), 192);
        is("33 need 3 quanta of 16 and so list 2, 48 are in list 1", x.take(3, 33, BEST, 0), NONE);
        is("32 have list 1", x.take(3, 32, BEST, 0), 144);
        for (int i = 0; i < quanta.length; i++) {
            failedAndPurged("33", x, i, 2, 2);
        }
        is("tags", x.tags(), 600 - (1 + 2) - (2 + 4) - (3 + 3) - (3 + 5));
    }

    private static void eightArenasDeep() {
        sentence("Terms 2: a SOURCE of a SOURCE, eight arenas at most");
        Watched x = chain(8);
        is("through all", x.take(7, 5, BEST, 0), 0);
        for (int a = 1; a < 8; a++) {
            is("arena " + a + " has a span", x.count(a, 12), 1);
            is("of one segment", x.count(a, 4), 1);
        }
        give(x, 7, 0, 5);
        for (int a = 1; a < 8; a++) {
            is("arena " + a + " has none", x.count(a, 3), 0);
        }
        segments(x, 0, 0, 100000, 0);
        is("too much for all", x.take(7, 65537, BEST, 0), NONE);
        for (int a = 0; a < 8; a++) {
            failedAndPurged("too much", x, a, 1, 1);
        }
        is("seven arenas", x.take(6, 65536, BEST, 0), 0);
        is("the eighth has nothing of it", x.count(7, 3), 0);
        Watched slab = chain(7);
        slab.make(1, 6, 1);
        is("a SLAB through all", slab.take(7, 1, BEST, 0), 0);
        for (int a = 1; a < 8; a++) {
            is("arena " + a + " has 4 numbers", slab.segment(a, 0, 1), 4);
        }
        give(slab, 7, 0, 1);
        is("purged", slab.purge(7), 1);
        segments(slab, 0, 0, 100000, 0);
    }

    // ---------------------------------------------------------------- failing

    private static void failsWithoutASource() {
        sentence("Terms 2: If it has no SOURCE: the arena's caches are PURGED; if that GAVE BACK none, it fails");
        Watched x = one(1, 0, 0, 10);
        is("just so", x.take(0, 10, BEST, 0), 0);
        failedAndPurged("just so", x, 0, 0, 0);
        give(x, 0, 0, 10);
        is("one too many", x.take(0, 11, BEST, 0), NONE);
        failedAndPurged("one too many", x, 0, 1, 1);
        Watched held = one(1, 1, 0, 8);
        is("an object", held.take(0, 1, BEST, 0), 0);
        is("a slab with an object that a client holds", held.take(0, 5, BEST, 0), NONE);
        failedAndPurged("a slab stays", held, 0, 1, 1);
        is("slabs", held.count(0, 10), 1);
        is("an arena without SPANS", one(1, 8).take(0, 9, BEST, 0), NONE);
        is("an arena without SPANS, cached", one(1, 8).take(0, 8, BEST, 0), NONE);
    }

    private static Watched withIdleSlab(int span) {
        Watched x = one(1, 1, 0, span);
        is("an object", x.take(0, 1, BEST, 0), 0);
        give(x, 0, 0, 1);
        return x;
    }

    private static void purgedForRoom() {
        sentence("Terms 2: if that GAVE BACK a segment the way is gone again; if there is none then, it fails");
        for (int way = 0; way < 3; way++) {
            Watched room = withIdleSlab(16);
            is("12 are free", room.take(0, 12, way == INSTANT ? BEST : way, 0), 4);
            failedAndPurged("12", room, 0, 0, 0);
            Watched more = withIdleSlab(16);
            is("13 need the slab", more.take(0, 13, way, 0), 0);
            failedAndPurged("13", more, 0, 0, 1);
            segments(more, 0, 0, 13, 1, 13, 3, 0);
            Watched all = withIdleSlab(16);
            is("16 need all of it", all.take(0, 16, way, 0), 0);
            Watched tooMuch = withIdleSlab(16);
            is("17 are too many", tooMuch.take(0, 17, way, 0), NONE);
            failedAndPurged("17", tooMuch, 0, 1, 1);
            is("yet the slab was given back", tooMuch.count(0, 10), 0);
        }
        Watched instant = withIdleSlab(15);
        is("instant: 9 of 15 need list 4, even after the purge", instant.take(0, 9, INSTANT, 0), NONE);
        failedAndPurged("instant", instant, 0, 1, 1);
        is("best has them", instant.take(0, 9, BEST, 0), 0);
        failedAndPurged("best", instant, 0, 1, 1);
        Watched next = withIdleSlab(16);
        is("a first one", next.take(0, 8, NEXT, 0), 4);
        is("the slab is below the rotor, but the only room", next.take(0, 5, NEXT, 0), NONE);
        is("4 of it", next.take(0, 4, NEXT, 0), 12);
        is("rotor", next.count(0, 11), 16);
        is("what was given back", next.take(0, 4, NEXT, 0), 0);
        is("the rotor goes round", next.count(0, 11), 4);
    }

    private static void failsWithASource() {
        sentence("Terms 2: or the SOURCE's fails: the arena's caches are PURGED");
        Watched x = one(1, 0, 0, 12);
        x.make(1, 0, 1);
        is("a slab of 4", x.take(1, 1, BEST, 0), 0);
        is("4 of 8", x.take(1, 4, BEST, 0), 4);
        give(x, 1, 0, 1);
        is("the source has 4 still", x.take(1, 4, BEST, 0), 8);
        failedAndPurged("a source that has it", x, 1, 0, 0);
        is("now it has none; what the purge gives goes to the source", x.take(1, 4, BEST, 0), NONE);
        failedAndPurged("above", x, 1, 1, 1);
        failedAndPurged("its source", x, 0, 1, 1);
        segments(x, 0, 0, 4, 0, 4, 4, 3, 8, 4, 3);
        is("now the source has it", x.take(1, 4, BEST, 0), 0);
        Watched span = one(16, 0, 0, 16);
        span.make(1, 0, 1);
        is("a slab of 4 in a span of 16", span.take(1, 1, BEST, 0), 0);
        is("6 beside it", span.take(1, 6, BEST, 0), 4);
        give(span, 1, 0, 1);
        is("6 are left", span.take(1, 6, BEST, 0), 10);
        is("2 more: the slab is given back in a span that stays", span.take(1, 2, BEST, 0), 0);
        failedAndPurged("above", span, 1, 0, 1);
        failedAndPurged("its source", span, 0, 1, 1);
        segments(span, 1, 0, 2, 1, 2, 2, 0, 4, 6, 1, 10, 6, 1);

        sentence("Terms 2: a SOURCE is PURGED for an arena above");
        Watched below = one(1, 1, 0, 8);
        below.make(1, 0, 0);
        is("a slab below", below.take(0, 1, BEST, 0), 0);
        is("4 above", below.take(1, 4, BEST, 0), 4);
        is("4 more", below.take(1, 4, BEST, 0), NONE);
        give(below, 0, 0, 1);
        is("by the source's purge", below.take(1, 4, BEST, 0), 0);
        failedAndPurged("above", below, 1, 1, 1);
        failedAndPurged("its source", below, 0, 1, 2);
    }

    private static void aboveAllNumbers() {
        sentence("Terms 2: A size above 1073741824 fails at once");
        for (int way = 0; way < 3; way++) {
            Watched x = withIdleSlab(16);
            x.make(1, 0, 1);
            is("all numbers less one", x.take(1, TOP - 1, way, 0), NONE);
            failedAndPurged("less one", x, 1, 1, 1);
            failedAndPurged("its source, less one", x, 0, 1, 1);
            is("all numbers", x.take(1, TOP, way, 0), NONE);
            failedAndPurged("all", x, 1, 2, 2);
            failedAndPurged("its source, all", x, 0, 2, 2);
            is("one more", x.take(1, TOP + 1, way, 0), NONE);
            failedAndPurged("one more: at once", x, 1, 3, 2);
            failedAndPurged("its source is not asked", x, 0, 2, 2);
            is("MAX", x.take(1, MAX, way, 0), NONE);
            failedAndPurged("MAX", x, 1, 4, 2);
            Watched idle = withIdleSlab(16);
            is("one more, with an idle slab", idle.take(0, TOP + 1, way, 0), NONE);
            is("the slab stays", idle.count(0, 10), 1);
            is("all numbers, with an idle slab", idle.take(0, TOP, way, 0), NONE);
            is("the slab is given back", idle.count(0, 10), 0);
            Watched all = one(1, 0, 0, TOP);
            is("one more than all", all.take(0, TOP + 1, way, 0), NONE);
            is("all there are", all.take(0, TOP, way, 0), 0);
            Watched q = one(65536, 0, 0, TOP);
            is("one more, rounded up", q.take(0, TOP + 1, way, 0), NONE);
            is("MAX, rounded up", q.take(0, MAX, way, 0), NONE);
            failedAndPurged("rounded up", q, 0, 2, 0);
            is("rounded up to all", q.take(0, TOP - 65535, way, 0), 0);
            is("all there are, by a source", over(65536, 65536, 0, TOP).take(1, TOP - 1, way, 0), 0);
        }
    }

    // ---------------------------------------------------------------- TO GIVE BACK

    private static Watched fourTaken() {
        Watched x = one(1, 0, 0, 40);
        for (int i = 0; i < 4; i++) {
            x.take(0, 10, BEST, 0);
        }
        return x;
    }

    private static void freeNeighbours() {
        sentence("Terms 2: TO GIVE BACK a segment: it is FREE, and one with FREE neighbours in its SPAN");
        Watched x = fourTaken();
        give(x, 0, 10, 10);
        segments(x, 0, 0, 10, 1, 10, 10, 0, 20, 10, 1, 30, 10, 1);
        give(x, 0, 30, 10);
        segments(x, 0, 0, 10, 1, 10, 10, 0, 20, 10, 1, 30, 10, 0);
        give(x, 0, 20, 10);
        segments(x, 0, 0, 10, 1, 10, 30, 0);
        give(x, 0, 0, 10);
        segments(x, 0, 0, 40, 0);
        Watched y = fourTaken();
        give(y, 0, 0, 10);
        give(y, 0, 10, 10);
        segments(y, 0, 0, 20, 0, 20, 10, 1, 30, 10, 1);
        give(y, 0, 30, 10);
        segments(y, 0, 0, 20, 0, 20, 10, 1, 30, 10, 0);
        give(y, 0, 20, 10);
        segments(y, 0, 0, 40, 0);

        sentence("Terms 2: a FREE neighbour that is what was left of a cut");
        for (int way = 0; way < 3; way++) {
            Watched cut = fourTaken();
            give(cut, 0, 10, 10);
            is("4 of 10 .. 19", cut.take(0, 4, way, 0), 10);
            segments(cut, 0, 0, 10, 1, 10, 4, 1, 14, 6, 0, 20, 10, 1, 30, 10, 1);
            give(cut, 0, 20, 10);
            segments(cut, 0, 0, 10, 1, 10, 4, 1, 14, 16, 0, 30, 10, 1);
            give(cut, 0, 10, 4);
            segments(cut, 0, 0, 10, 1, 10, 20, 0, 30, 10, 1);
        }
        Watched within = fourTaken();
        give(within, 0, 10, 10);
        is("4 in the midst of 10 .. 19", within.takeWithin(0, 4, 16, 13, 0), 13);
        give(within, 0, 20, 10);
        give(within, 0, 0, 10);
        segments(within, 0, 0, 13, 0, 13, 4, 4, 17, 13, 0, 30, 10, 1);
        is("the midst", within.giveWithin(0, 13, 4), 0);
        segments(within, 0, 0, 30, 0, 30, 10, 1);

        sentence("Terms 2: neighbours in its SPAN, not beyond its ends");
        Watched spans = one(1, 0, 10, 10, 0, 10, 20, 10);
        is("the span between", spans.take(0, 10, NEXT, 0), 0);
        is("next", spans.take(0, 10, NEXT, 0), 10);
        give(spans, 0, 0, 10);
        give(spans, 0, 10, 10);
        segments(spans, 0, 0, 10, 0, 10, 10, 0, 20, 10, 0);
        is("11 over two spans", spans.take(0, 11, BEST, 0), NONE);
        is("spans", spans.count(0, 3), 3);
        Watched imported = over(4, 4, 0, 40);
        imported.take(1, 4, BEST, 0);
        imported.take(1, 4, BEST, 0);
        imported.take(1, 4, BEST, 0);
        give(imported, 1, 4, 4);
        segments(imported, 1, 0, 4, 1, 8, 4, 1);
        segments(imported, 0, 0, 4, 3, 4, 4, 0, 8, 4, 3, 12, 28, 0);
    }

    private static void importedSpansEnd() {
        sentence("Terms 2: A SPAN that was IMPORTED and is one FREE segment then is no more");
        Watched x = over(16, 4, 0, 64);
        is("a", x.take(1, 4, BEST, 0), 0);
        is("b", x.take(1, 8, BEST, 0), 4);
        give(x, 1, 0, 4);
        is("b is there: the span stays", x.count(1, 3), 1);
        segments(x, 1, 0, 4, 0, 4, 8, 1, 12, 4, 0);
        give(x, 1, 4, 8);
        is("the span is no more", x.count(1, 3) + x.count(1, 4) + x.count(1, 12), 0);
        is("nowhere", x.where(1, 0), NONE);
        noSuch("no segment", () -> x.segment(1, 0, 0));
        illegal("no such range", () -> x.give(1, 4, 8, 0));
        segments(x, 0, 0, 64, 0);
        is("imported whole", x.take(1, 32, BEST, 0), 0);
        give(x, 1, 0, 32);
        is("whole, no more at once", x.count(1, 3), 0);
        is("all tags but two", x.tags(), 598);

        sentence("Terms 2: an added SPAN that is one FREE segment stays");
        Watched added = one(4, 0, 0, 16);
        added.take(0, 16, BEST, 0);
        give(added, 0, 0, 16);
        segments(added, 0, 0, 16, 0);
        is("spans", added.count(0, 3), 1);
        is("not imported", added.segment(0, 0, 7) + added.count(0, 12), 0);
    }

    private static void rangesGoBackToTheSource() {
        sentence("Terms 2: its range is GIVEN BACK to the SOURCE");
        Watched x = over(4, 4, 0, 40);
        x.take(1, 8, BEST, 0);
        x.take(1, 8, BEST, 0);
        x.take(1, 8, BEST, 0);
        give(x, 1, 8, 8);
        segments(x, 0, 0, 8, 3, 8, 8, 0, 16, 8, 3, 24, 16, 0);
        is("alone in list 1", x.segment(0, 1, 3) * 10 + x.segment(0, 1, 4), 10);
        give(x, 1, 0, 8);
        segments(x, 0, 0, 16, 0, 16, 8, 3, 24, 16, 0);
        is("merged there, the latest in list 2", x.segment(0, 0, 4) * 10 + x.segment(0, 2, 4), 1);
        give(x, 1, 16, 8);
        segments(x, 0, 0, 40, 0);

        sentence("Terms 2: its range is GIVEN BACK to the SOURCE, by giveWithin() and by a purge too");
        Watched within = over(16, 4, 0, 16);
        is("12", within.take(1, 12, BEST, 0), 0);
        is("the last 4 by bounds", within.takeWithin(1, 4, 4, 0, 0), 12);
        give(within, 1, 0, 12);
        is("the span stays", within.count(1, 3), 1);
        is("given", within.giveWithin(1, 12, 4), 0);
        is("the span is no more", within.count(1, 3), 0);
        segments(within, 0, 0, 16, 0);
        Watched slab = one(16, 0, 0, 64);
        slab.make(16, 0, 0);
        slab.make(4, 1, 1);
        is("a slab of 16", slab.take(2, 4, BEST, 0), 0);
        give(slab, 2, 0, 4);
        is("an idle slab holds the span", slab.count(2, 3), 1);
        is("purged", slab.purge(2), 1);
        is("the spans are no more", slab.count(2, 3) + slab.count(1, 3), 0);
        segments(slab, 0, 0, 64, 0);
        is("what a purge ended came back as one of the latest", slab.segment(0, 0, 4), 0);
    }

    public static void main(String[] args) {
        best();
        instantLists();
        instantFirst();
        nextFromTheRotor();
        nextTurnsRound();
        onlyNextMovesTheRotor();
        lowestPart();
        importsIfThereIsNone();
        importsAreRoundedUp();
        importsAreInstant();
        importsGoDown();
        eightArenasDeep();
        failsWithoutASource();
        purgedForRoom();
        failsWithASource();
        aboveAllNumbers();
        freeNeighbours();
        importedSpansEnd();
        rangesGoBackToTheSource();
        finish();
    }
}
