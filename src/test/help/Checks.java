import java.util.NoSuchElementException;

/** What the tests by hand share: a check tells the sentence of DOC.md that it stands for. */
abstract class Checks {
    static final int NONE = RangeArenas.NONE;
    static final int FULL = -2;
    static final int TOP = 1073741824;
    static final int MAX = Integer.MAX_VALUE;
    static final int MIN = Integer.MIN_VALUE;
    static final int BEST = 0;
    static final int INSTANT = 1;
    static final int NEXT = 2;

    private static int wrong = 0;
    private static int checks = 0;
    private static int sentences = 0;
    private static String sentence = "";

    interface Call {
        void run();
    }

    interface Steps {
        void run(Watched x);
    }

    static void sentence(String text) {
        sentence = text;
        sentences++;
    }

    private static void tell(String what) {
        wrong++;
        System.out.println("[" + sentence + "] " + what);
    }

    static void is(String what, long got, long due) {
        checks++;
        if (got != due) {
            tell(what + " is " + got + ", due is " + due);
        }
    }

    /** The exact class: one of the machine's own, such as ArrayIndexOutOfBoundsException, is wrong. */
    private static void fails(String what, Class<?> due, Call call) {
        checks++;
        Class<?> got = null;
        try {
            call.run();
        } catch (RuntimeException e) {
            got = e.getClass();
        }
        if (got != due) {
            tell(what + " throws " + got + ", due is " + due);
        }
    }

    static void illegal(String what, Call call) {
        fails(what, IllegalArgumentException.class, call);
    }

    static void noArena(String what, Call call) {
        fails(what, IndexOutOfBoundsException.class, call);
    }

    static void noSuch(String what, Call call) {
        fails(what, NoSuchElementException.class, call);
    }

    /** base, size, whose, for each segment of an arena. */
    static void segments(Watched x, int arena, int... due) {
        int there = x.count(arena, 4);
        is("count of segments", there, due.length / 3);
        for (int i = 0; i < due.length && i / 3 < there; i++) {
            is("segment " + i / 3 + "'s " + i % 3, x.segment(arena, i / 3, i % 3), due[i]);
        }
    }

    /** For each segment how many are ahead of it in its LIST. */
    static void ahead(Watched x, int arena, int... due) {
        int there = x.count(arena, 4);
        is("count of segments", there, due.length);
        for (int i = 0; i < due.length && i < there; i++) {
            is("segment " + i + ": ahead of it", x.segment(arena, i, 4), due[i]);
        }
    }

    static void counts(Watched x, int arena, int... due) {
        for (int what = 0; what < due.length; what++) {
            is("count " + what + " of arena " + arena, x.count(arena, what), due[what]);
        }
    }

    /** How often TO TAKE failed, and how often it was PURGED. */
    static void failedAndPurged(String what, Watched x, int arena, int failed, int purged) {
        is(what + ": failed in arena " + arena, x.count(arena, 13), failed);
        is(what + ": purged arena " + arena, x.count(arena, 14), purged);
    }

    static void caches(Watched x, int arena, int i, int... due) {
        for (int what = 0; what < due.length; what++) {
            is("cache " + i + " of arena " + arena + ", " + what, x.cache(arena, i, what), due[what]);
        }
    }

    static void give(Watched x, int arena, int base, int size) {
        is("give " + base, x.give(arena, base, size, 0), 0);
    }

    /** An object with one arena, without a SOURCE, and its SPANS. */
    static Watched one(int quantum, int cached, int... spans) {
        Watched x = new Watched();
        x.make(quantum, NONE, cached);
        addAll(x, 0, spans);
        return x;
    }

    static void addAll(Watched x, int arena, int... spans) {
        for (int i = 0; i + 1 < spans.length; i += 2) {
            is("add " + spans[i], x.add(arena, spans[i], spans[i + 1]), 0);
        }
    }

    /** Arenas of quantum 1, each above the one ahead of it; arena 0 has the numbers below 100000. */
    static Watched chain(int arenas) {
        Watched x = one(1, 0, 0, 100000);
        for (int i = 1; i < arenas; i++) {
            x.make(1, i - 1, 0);
        }
        return x;
    }

    /** Takes from a chain until so many TAGS are left; the takes of many come last, as they may go below 40. */
    static void fillTo(Watched x, int arenas, int left) {
        int eachTake = 2 * arenas - 1;
        int need = x.tags() - left;
        for (int i = 0; i < need % eachTake; i++) {
            x.take(0, 1, BEST, 0);
        }
        for (int i = 0; i < need / eachTake; i++) {
            x.take(arenas - 1, 1, BEST, 0);
        }
        is("tags left", x.tags(), left);
    }

    private static boolean isArena(Watched x, int arena) {
        try {
            return x.count(arena, 0) > 0;
        } catch (IndexOutOfBoundsException e) {
            return false;
        }
    }

    /** All that the questions of the face tell. */
    static String state(Watched x) {
        StringBuilder t = new StringBuilder("tags ").append(x.tags());
        for (int a = 0; a < 9 && isArena(x, a); a++) {
            t.append("\n arena ").append(a).append(':');
            for (int what = 0; what < 15; what++) {
                t.append(' ').append(x.count(a, what));
            }
            for (int i = 0; i < x.count(a, 4); i++) {
                t.append("\n  segment:");
                for (int what = 0; what < 8; what++) {
                    t.append(' ').append(x.segment(a, i, what));
                }
            }
            for (int i = 1; i <= x.count(a, 2); i++) {
                t.append("\n  cache:");
                for (int what = 0; what < 10; what++) {
                    t.append(' ').append(x.cache(a, i, what));
                }
            }
        }
        return t.toString();
    }

    static void same(String what, String got, String due) {
        checks++;
        if (!got.equals(due)) {
            tell(what + ": the state is\n" + got + "\ndue is\n" + due);
        }
    }

    private static Watched after(Steps... steps) {
        Watched x = new Watched();
        for (Steps s : steps) {
            s.run(x);
        }
        return x;
    }

    /** Two objects go the same steps, one of them the refused calls too: what they tell then is the same. */
    static void unchanged(String what, Steps before, Steps refused) {
        same(what, state(after(before, refused)), state(after(before)));
    }

    static void finish() {
        System.out.println(wrong == 0 ? checks + " checks of " + sentences + " sentences are as due"
            : wrong + " of " + checks + " checks are not as due");
        if (wrong != 0) {
            System.exit(1);
        }
    }
}
