/** A RangeArenas whose calls are counted: nothing is promised beyond the 512th, so no test may ask there. */
final class Watched {
    static final int MOST_CALLS = 512;

    private final RangeArenas inside = new RangeArenas();
    private int calls = 0;

    private RangeArenas next() {
        calls++;
        if (calls > MOST_CALLS) {
            throw new AssertionError("this test makes more than 512 calls on one object");
        }
        return inside;
    }

    int callsLeft() {
        return MOST_CALLS - calls;
    }

    int make(int quantum, int source, int cached) {
        return next().make(quantum, source, cached);
    }

    int add(int arena, int base, int size) {
        return next().add(arena, base, size);
    }

    int take(int arena, int size, int way, int desk) {
        return next().take(arena, size, way, desk);
    }

    int give(int arena, int base, int size, int desk) {
        return next().give(arena, base, size, desk);
    }

    int takeWithin(int arena, int size, int align, int phase, int cross) {
        return next().takeWithin(arena, size, align, phase, cross);
    }

    int giveWithin(int arena, int base, int size) {
        return next().giveWithin(arena, base, size);
    }

    void bounds(int arena, int low, int high) {
        next().bounds(arena, low, high);
    }

    int purge(int arena) {
        return next().purge(arena);
    }

    int tags() {
        return next().tags();
    }

    int count(int arena, int what) {
        return next().count(arena, what);
    }

    int segment(int arena, int i, int what) {
        return next().segment(arena, i, what);
    }

    int cache(int arena, int i, int what) {
        return next().cache(arena, i, what);
    }

    int where(int arena, int number) {
        return next().where(arena, number);
    }
}
