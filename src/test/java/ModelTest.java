import java.util.ArrayDeque;
import java.util.ArrayList;
import java.util.Arrays;
import java.util.Comparator;
import java.util.HashMap;
import java.util.List;
import java.util.Map;
import java.util.NoSuchElementException;
import java.util.TreeMap;
import java.util.TreeSet;

/** Plays long mixed runs on RangeArenas and on a slow model that is written straight from DOC.md's words. */
public final class ModelTest {
    private static final int TOP = 1073741824;
    private static int wrong = 0;

    // ---------------------------------------------------------------- the model

    static final class Seg {
        int base, size, owner;
        Span span;
        int unit;
        TreeSet<Integer> lying = new TreeSet<>();
    }

    static final class Span {
        int base, size;
        boolean imported;
        TreeMap<Integer, Seg> segs = new TreeMap<>();
    }

    static final class Mags {
        List<ArrayDeque<Integer>> loaded = new ArrayList<>();
        List<ArrayDeque<Integer>> spare = new ArrayList<>();
        ArrayDeque<ArrayDeque<Integer>> depot = new ArrayDeque<>();

        Mags() {
            for (int d = 0; d < 2; d++) {
                loaded.add(new ArrayDeque<>());
                spare.add(new ArrayDeque<>());
            }
        }
    }

    static final class Ar {
        int number, q, source, cached, rotor, fails, purges, low, high = TOP;
        TreeMap<Integer, Span> spans = new TreeMap<>();
        Map<Integer, ArrayDeque<Seg>> lists = new HashMap<>();
        Map<Integer, Mags> mags = new HashMap<>();
        Map<Integer, Map<Integer, Integer>> objectsOut = new HashMap<>();
    }

    static final class Model {
        final List<Ar> ars = new ArrayList<>();

        Ar ar(int n) {
            if (n < 0 || n >= ars.size()) throw new IndexOutOfBoundsException();
            return ars.get(n);
        }

        static boolean pow2(int n) {
            return n > 0 && Integer.bitCount(n) == 1;
        }

        static long up(long size, long q) {
            return (size + q - 1) / q * q;
        }

        int tags() {
            int used = 0;
            for (Ar a : ars) for (Span sp : a.spans.values()) used += 1 + sp.segs.size();
            return 600 - used;
        }

        int make(int q, int source, int cached) {
            boolean okSource = source == -1 || source >= 0 && source < ars.size() && ars.get(source).q >= q;
            if (!pow2(q) || q > 65536 || !okSource || cached < 0 || cached > 8) throw new IllegalArgumentException();
            if (ars.size() == 8) return -1;
            Ar a = new Ar();
            a.number = ars.size();
            a.q = q;
            a.source = source;
            a.cached = cached;
            for (int i = 1; i <= cached; i++) {
                a.mags.put(i, new Mags());
                a.objectsOut.put(i, new HashMap<>());
            }
            ars.add(a);
            return a.number;
        }

        static int list(Ar a, int size) {
            int k = 0;
            while ((long) a.q << (k + 1) <= size) k++;
            return k;
        }

        static void enlist(Ar a, Seg s) {
            s.owner = 0;
            a.lists.computeIfAbsent(list(a, s.size), k -> new ArrayDeque<>()).addFirst(s);
        }

        static void unlist(Ar a, Seg s) {
            if (!a.lists.get(list(a, s.size)).remove(s)) throw new RuntimeException("the model lost a segment");
        }

        static Seg fresh(Span sp, int base, int size) {
            Seg s = new Seg();
            s.base = base;
            s.size = size;
            s.span = sp;
            sp.segs.put(base, s);
            return s;
        }

        Span span(Ar a, int base, int size, boolean imported) {
            Span sp = new Span();
            sp.base = base;
            sp.size = size;
            sp.imported = imported;
            a.spans.put(base, sp);
            return sp;
        }

        int add(int arena, int base, int size) {
            Ar a = ar(arena);
            if (base % a.q != 0 || size % a.q != 0 || size <= 0) throw new IllegalArgumentException();
            if (tags() < 40) return -2;
            if (a.source != -1 || base < 0 || (long) base + size > TOP) return -1;
            for (Span sp : a.spans.values()) if (sp.base < base + size && base < sp.base + sp.size) return -1;
            Span sp = span(a, base, size, false);
            enlist(a, fresh(sp, base, size));
            return 0;
        }

        List<Seg> all(Ar a) {
            List<Seg> r = new ArrayList<>();
            for (Span sp : a.spans.values()) r.addAll(sp.segs.values());
            return r;
        }

        Seg seek(Ar a, int size, int way) {
            List<Seg> fit = new ArrayList<>();
            for (Seg s : all(a)) if (s.owner == 0 && s.size >= size) fit.add(s);
            if (way == 0) return fit.stream().min(Comparator.comparingInt((Seg s) -> s.size).thenComparingInt(s -> s.base)).orElse(null);
            if (way == 2) {
                for (Seg s : fit) if (s.base >= a.rotor) return s;
                return fit.isEmpty() ? null : fit.get(0);
            }
            int k = 0;
            while (((long) a.q << k) < size) k++;
            for (; k <= 31; k++) {
                ArrayDeque<Seg> l = a.lists.get(k);
                if (l != null && !l.isEmpty()) return l.peekFirst();
            }
            return null;
        }

        /** Cuts [at, at + size) out of a FREE segment. */
        Seg cut(Ar a, Seg s, int at, int size, int owner) {
            unlist(a, s);
            s.span.segs.remove(s.base);
            if (at > s.base) enlist(a, fresh(s.span, s.base, at - s.base));
            Seg mine = fresh(s.span, at, size);
            mine.owner = owner;
            if (s.base + s.size > at + size) enlist(a, fresh(s.span, at + size, s.base + s.size - at - size));
            return mine;
        }

        Seg takeFrom(Ar a, long size, int way, int owner) {
            Seg got = null;
            if (size <= TOP) {
                int n = (int) size;
                Seg s = seek(a, n, way);
                if (s != null) got = cut(a, s, s.base, n, owner);
                if (got == null && a.source != -1) {
                    Ar src = ars.get(a.source);
                    Seg below = takeFrom(src, up(n, src.q), 1, 3);
                    if (below != null) {
                        Span sp = span(a, below.base, below.size, true);
                        got = fresh(sp, below.base, n);
                        got.owner = owner;
                        if (below.size > n) enlist(a, fresh(sp, below.base + n, below.size - n));
                    }
                }
                if (got == null && purgeOf(a) > 0) {
                    s = seek(a, n, way);
                    if (s != null) got = cut(a, s, s.base, n, owner);
                }
            }
            if (got == null) {
                a.fails++;
                return null;
            }
            if (way == 2) a.rotor = got.base + got.size;
            return got;
        }

        void giveBack(Ar a, Seg s) {
            Span sp = s.span;
            int lo = s.base;
            int hi = s.base + s.size;
            Map.Entry<Integer, Seg> l = sp.segs.lowerEntry(s.base);
            Map.Entry<Integer, Seg> h = sp.segs.higherEntry(s.base);
            sp.segs.remove(s.base);
            if (l != null && l.getValue().owner == 0) {
                unlist(a, l.getValue());
                lo = l.getKey();
                sp.segs.remove(lo);
            }
            if (h != null && h.getValue().owner == 0) {
                unlist(a, h.getValue());
                hi = h.getKey() + h.getValue().size;
                sp.segs.remove(h.getKey());
            }
            if (sp.imported && lo == sp.base && hi == sp.base + sp.size) {
                a.spans.remove(sp.base);
                Ar src = ars.get(a.source);
                for (Seg t : all(src)) if (t.base == sp.base && t.size == sp.size && t.owner == 3) {
                    giveBack(src, t);
                    return;
                }
                throw new RuntimeException("the model lost an imported span");
            }
            enlist(a, fresh(sp, lo, hi - lo));
        }

        Seg slabWith(Ar a, int unit, int base) {
            for (Seg s : all(a)) if (s.owner == 2 && s.unit == unit && base >= s.base && base < s.base + s.size) return s;
            throw new RuntimeException("the model lost a slab");
        }

        int slabQuanta(Ar a) {
            int s = 1;
            while (s < 3 * a.cached) s *= 2;
            return s;
        }

        int purgeOf(Ar a) {
            a.purges++;
            int n = 0;
            for (int i = 1; i <= a.cached; i++) {
                Mags m = a.mags.get(i);
                List<Integer> objects = new ArrayList<>();
                for (int d = 0; d < 2; d++) {
                    objects.addAll(m.loaded.get(d));
                    objects.addAll(m.spare.get(d));
                    m.loaded.get(d).clear();
                    m.spare.get(d).clear();
                }
                for (ArrayDeque<Integer> full : m.depot) objects.addAll(full);
                m.depot.clear();
                for (int o : objects) slabWith(a, i, o).lying.add(o);
                for (Seg s : all(a)) if (s.owner == 2 && s.unit == i && s.lying.size() == slabQuanta(a) / i) {
                    giveBack(a, s);
                    n++;
                }
            }
            return n;
        }

        int out(Ar a, int i, int desk) {
            Mags m = a.mags.get(i);
            Integer got = m.loaded.get(desk).pollFirst();
            if (got == null && !m.spare.get(desk).isEmpty()) {
                ArrayDeque<Integer> t = m.loaded.get(desk);
                m.loaded.set(desk, m.spare.get(desk));
                m.spare.set(desk, t);
                got = m.loaded.get(desk).pollFirst();
            }
            if (got == null && !m.depot.isEmpty()) {
                m.spare.set(desk, m.loaded.get(desk));
                m.loaded.set(desk, m.depot.pollFirst());
                got = m.loaded.get(desk).pollFirst();
            }
            if (got == null) {
                for (Seg s : all(a)) if (got == null && s.owner == 2 && s.unit == i) got = s.lying.pollFirst();
            }
            if (got == null) {
                Seg s = takeFrom(a, (long) slabQuanta(a) * a.q, 1, 2);
                if (s == null) return -1;
                s.unit = i;
                for (int j = 0; j < slabQuanta(a) / i; j++) s.lying.add(s.base + j * i * a.q);
                got = s.lying.pollFirst();
            }
            a.objectsOut.get(i).put(got, i);
            return got;
        }

        int take(int arena, int size, int way, int desk) {
            Ar a = ar(arena);
            if (size <= 0 || way < 0 || way > 2 || desk < 0 || desk > 1) throw new IllegalArgumentException();
            if (tags() < 40) return -2;
            long n = up(size, a.q);
            if (n / a.q <= a.cached) return out(a, (int) (n / a.q), desk);
            Seg s = takeFrom(a, n, way, 1);
            return s == null ? -1 : s.base;
        }

        int give(int arena, int base, int size, int desk) {
            Ar a = ar(arena);
            if (desk < 0 || desk > 1 || size <= 0) throw new IllegalArgumentException();
            long n = up(size, a.q);
            if (n / a.q > a.cached) {
                for (Seg s : all(a)) if (s.base == base && s.size == n && s.owner == 1) {
                    giveBack(a, s);
                    return 0;
                }
                throw new IllegalArgumentException();
            }
            int i = (int) (n / a.q);
            if (a.objectsOut.get(i).remove(base) == null) throw new IllegalArgumentException();
            Mags m = a.mags.get(i);
            if (m.loaded.get(desk).size() == 3) {
                if (m.spare.get(desk).isEmpty()) {
                    ArrayDeque<Integer> t = m.loaded.get(desk);
                    m.loaded.set(desk, m.spare.get(desk));
                    m.spare.set(desk, t);
                } else if (m.spare.get(desk).size() < 3) {
                    throw new RuntimeException("a SPARE that is neither empty nor full");
                } else if (m.depot.size() < 4) {
                    m.depot.addFirst(m.spare.get(desk));
                    m.spare.set(desk, m.loaded.get(desk));
                    m.loaded.set(desk, new ArrayDeque<>());
                } else {
                    slabWith(a, i, base).lying.add(base);
                    return 0;
                }
            }
            m.loaded.get(desk).addFirst(base);
            return 0;
        }

        /** The least base in a segment, number by number. */
        static int within(Ar a, Seg s, long size, int align, int phase, int cross) {
            for (long at = s.base; at + size <= (long) s.base + s.size; at += a.q) {
                if (at % align != phase || at < a.low || at + size > a.high) continue;
                boolean crossed = false;
                if (cross != 0) {
                    for (long m = at / cross * cross; m < at + size; m += cross) crossed |= m > at;
                }
                if (!crossed) return (int) at;
            }
            return -1;
        }

        int seekWithin(Ar a, long size, int align, int phase, int cross) {
            List<Seg> free = new ArrayList<>();
            for (Seg s : all(a)) if (s.owner == 0) free.add(s);
            free.sort(Comparator.comparingInt((Seg s) -> s.size).thenComparingInt(s -> s.base));
            for (Seg s : free) {
                int at = within(a, s, size, align, phase, cross);
                if (at >= 0) {
                    cut(a, s, at, (int) size, 4);
                    return at;
                }
            }
            return -1;
        }

        int takeWithin(int arena, int size, int align, int phase, int cross) {
            Ar a = ar(arena);
            if (size <= 0 || !pow2(align) || align < a.q) throw new IllegalArgumentException();
            if (cross != 0 && (!pow2(cross) || cross < a.q)) throw new IllegalArgumentException();
            if (phase < 0 || phase >= align || phase % a.q != 0) throw new IllegalArgumentException();
            if (tags() < 40) return -2;
            long n = up(size, a.q);
            int at = seekWithin(a, n, align, phase, cross);
            if (at < 0 && purgeOf(a) > 0) at = seekWithin(a, n, align, phase, cross);
            return at;
        }

        int giveWithin(int arena, int base, int size) {
            Ar a = ar(arena);
            if (size <= 0) throw new IllegalArgumentException();
            for (Seg s : all(a)) if (s.base == base && s.size == up(size, a.q) && s.owner == 4) {
                giveBack(a, s);
                return 0;
            }
            throw new IllegalArgumentException();
        }

        int bounds(int arena, int low, int high) {
            Ar a = ar(arena);
            if (low < 0 || high < low || high > TOP) throw new IllegalArgumentException();
            a.low = low;
            a.high = high;
            return 0;
        }

        int sum(Ar a, int owner) {
            int n = 0;
            for (Seg s : all(a)) if (s.owner == owner) n += s.size;
            return n;
        }

        int many(Ar a, int owner) {
            int n = 0;
            for (Seg s : all(a)) if (s.owner == owner) n++;
            return n;
        }

        int count(int arena, int what) {
            Ar a = ar(arena);
            int imported = 0;
            for (Span sp : a.spans.values()) if (sp.imported) imported++;
            int held = sum(a, 1) + sum(a, 4);
            for (int i = 1; i <= a.cached; i++) held += a.objectsOut.get(i).size() * i * a.q;
            int[] answers = {a.q, a.source, a.cached, a.spans.size(), all(a).size(), many(a, 0), sum(a, 0), held,
                sum(a, 3), sum(a, 2), many(a, 2), a.rotor, imported, a.fails, a.purges};
            if (what < 0 || what >= answers.length) throw new NoSuchElementException();
            return answers[what];
        }

        int segment(int arena, int i, int what) {
            Ar a = ar(arena);
            List<Seg> l = all(a);
            if (i < 0 || i >= l.size() || what < 0 || what > 7) throw new NoSuchElementException();
            Seg s = l.get(i);
            int k = -1;
            int ahead = -1;
            if (s.owner == 0) {
                k = list(a, s.size);
                ahead = new ArrayList<>(a.lists.get(k)).indexOf(s);
            }
            int[] answers = {s.base, s.size, s.owner, k, ahead, s.span.base, s.span.size, s.span.imported ? 1 : 0};
            return answers[what];
        }

        int cache(int arena, int i, int what) {
            Ar a = ar(arena);
            if (i < 1 || i > a.cached || what < 0 || what > 9) throw new NoSuchElementException();
            Mags m = a.mags.get(i);
            int lying = 0;
            int slabs = 0;
            for (Seg s : all(a)) if (s.owner == 2 && s.unit == i) {
                slabs++;
                lying += s.lying.size();
            }
            Integer top0 = m.loaded.get(0).peekFirst();
            Integer top1 = m.loaded.get(1).peekFirst();
            int[] answers = {a.objectsOut.get(i).size(), m.loaded.get(0).size(), m.spare.get(0).size(),
                m.loaded.get(1).size(), m.spare.get(1).size(), m.depot.size(), lying, slabs,
                top0 == null ? -1 : top0, top1 == null ? -1 : top1};
            return answers[what];
        }

        int where(int arena, int number) {
            Ar a = ar(arena);
            for (Seg s : all(a)) if (number >= s.base && number - s.base < s.size) {
                if (s.owner == 2) {
                    for (int o : a.objectsOut.get(s.unit).keySet()) {
                        if (number >= o && number < o + s.unit * a.q) return 1;
                    }
                }
                return s.owner;
            }
            return -1;
        }
    }

    // ---------------------------------------------------------------- playing both

    static final String[] NAMES = {"make", "add", "take", "give", "takeWithin", "giveWithin", "bounds", "purge",
        "tags", "count", "segment", "cache", "where"};

    static String onModel(Model m, int call, int[] v) {
        try {
            switch (call) {
                case 0: return "" + m.make(v[0], v[1], v[2]);
                case 1: return "" + m.add(v[0], v[1], v[2]);
                case 2: return "" + m.take(v[0], v[1], v[2], v[3]);
                case 3: return "" + m.give(v[0], v[1], v[2], v[3]);
                case 4: return "" + m.takeWithin(v[0], v[1], v[2], v[3], v[4]);
                case 5: return "" + m.giveWithin(v[0], v[1], v[2]);
                case 6: return "" + m.bounds(v[0], v[1], v[2]);
                case 7: return "" + m.purgeOf(m.ar(v[0]));
                case 8: return "" + m.tags();
                case 9: return "" + m.count(v[0], v[1]);
                case 10: return "" + m.segment(v[0], v[1], v[2]);
                case 11: return "" + m.cache(v[0], v[1], v[2]);
                default: return "" + m.where(v[0], v[1]);
            }
        } catch (IllegalArgumentException | IndexOutOfBoundsException | NoSuchElementException e) {
            return e.getClass().getName();
        }
    }

    /** The exact class is told, so that the machine's own exceptions (subclasses) never pass for the document's. */
    static String onClass(Watched x, int call, int[] v) {
        try {
            switch (call) {
                case 0: return "" + x.make(v[0], v[1], v[2]);
                case 1: return "" + x.add(v[0], v[1], v[2]);
                case 2: return "" + x.take(v[0], v[1], v[2], v[3]);
                case 3: return "" + x.give(v[0], v[1], v[2], v[3]);
                case 4: return "" + x.takeWithin(v[0], v[1], v[2], v[3], v[4]);
                case 5: return "" + x.giveWithin(v[0], v[1], v[2]);
                case 6: x.bounds(v[0], v[1], v[2]); return "0";
                case 7: return "" + x.purge(v[0]);
                case 8: return "" + x.tags();
                case 9: return "" + x.count(v[0], v[1]);
                case 10: return "" + x.segment(v[0], v[1], v[2]);
                case 11: return "" + x.cache(v[0], v[1], v[2]);
                default: return "" + x.where(v[0], v[1]);
            }
        } catch (RuntimeException e) {
            return e.getClass().getName();
        }
    }

    static final class Play {
        final Watched x = new Watched();
        final Model m = new Model();
        final String name;
        final List<String> log = new ArrayList<>();
        final List<int[]> done = new ArrayList<>();
        boolean broken = false;
        int least = 600;
        long seed;
        final int[][] seen = new int[NAMES.length][5];

        Play(String name, long seed) {
            this.name = name;
            this.seed = seed * 7919 + 17;
        }

        int dice(int n) {
            seed = seed * 6364136223846793005L + 1442695040888963407L;
            return (int) ((seed >>> 33) % n);
        }

        static String told(int call, int[] v) {
            StringBuilder t = new StringBuilder(NAMES[call]).append('(');
            for (int i = 0; i < v.length; i++) t.append(i == 0 ? "" : ", ").append(v[i]);
            return t.append(')').toString();
        }

        void call(int call, int... v) {
            if (broken) return;
            compare(x, call, v);
            int[] made = new int[v.length + 1];
            made[0] = call;
            System.arraycopy(v, 0, made, 1, v.length);
            done.add(made);
        }

        void compare(Watched on, int call, int[] v) {
            String due = onModel(m, call, v);
            String got = onClass(on, call, v);
            String t = told(call, v);
            log.add(t + " = " + due);
            seen[call][due.equals("-2") ? 2 : due.equals("-1") ? 1 : due.startsWith("java") ? 3 : 0]++;
            least = Math.min(least, m.tags());
            if (!due.equals(got)) {
                broken = true;
                wrong++;
                System.out.println(name + ": call " + log.size() + ", " + t + " answered " + got + ", due is " + due);
                for (int i = Math.max(0, log.size() - 12); i < log.size(); i++) System.out.println("    " + log.get(i));
            }
        }

        List<int[]> questions() {
            List<int[]> all = new ArrayList<>();
            all.add(new int[] {8});
            for (int a = 0; a < m.ars.size(); a++) {
                for (int w = -1; w < 16; w++) all.add(new int[] {9, a, w});
                int n = m.all(m.ars.get(a)).size();
                for (int i = 0; i <= n; i++) for (int w = 0; w < 8; w++) all.add(new int[] {10, a, i, w});
                for (int i = 1; i <= m.ars.get(a).cached; i++) for (int w = 0; w < 10; w++) all.add(new int[] {11, a, i, w});
                for (Seg s : m.all(m.ars.get(a))) {
                    int[] numbers = {s.base, s.base + s.size - 1, s.base - 1, s.base + s.size, s.base + dice(s.size)};
                    for (int number : numbers) all.add(new int[] {12, a, number});
                }
            }
            return all;
        }

        Watched again() {
            Watched fresh = new Watched();
            for (int[] c : done) onClass(fresh, c[0], Arrays.copyOfRange(c, 1, c.length));
            return fresh;
        }

        /** Asks on fresh objects that have gone the same calls, as nothing is promised beyond an object's 512th. */
        void compareAll(int objects) {
            List<int[]> questions = questions();
            for (int n = 0; n < objects && !broken && !questions.isEmpty(); n++) {
                Watched fresh = again();
                while (fresh.callsLeft() > 0 && !broken && !questions.isEmpty()) {
                    int last = questions.size() - 1;
                    int at = dice(questions.size());
                    int[] q = questions.get(at);
                    questions.set(at, questions.get(last));
                    questions.remove(last);
                    compare(fresh, q[0], Arrays.copyOfRange(q, 1, q.length));
                }
            }
        }
    }

    static int wild(Play p) {
        int[] edges = {0, 1, -1, 2, 3, -2, 7, 8, 9, 15, 16, 40, 1073741823, 1073741824, 1073741825, 2147483647,
            -2147483648, 65536, 131072, -65536, 2147418112, 100000, 4, 5};
        return edges[p.dice(edges.length)];
    }

    /** One arena's world: what kind of sizes it is asked for. */
    static void setUp(Play p, int kind) {
        int room = kind % 3 == 0 ? 128 : kind % 3 == 1 ? 1024 : 16384;
        int depth = 1 + p.dice(8);
        int q = 1 << p.dice(5);
        for (int i = 0; i < depth; i++) {
            int source = i == 0 ? -1 : p.dice(3) > 0 ? i - 1 : p.dice(i + 1) - 1;
            int cached = p.dice(2) == 0 ? 0 : p.dice(9);
            p.call(0, q, source, cached);
            if (p.dice(3) == 0 && q > 1) q /= 2;
        }
        for (int a = 0; a < p.m.ars.size(); a++) {
            Ar ar = p.m.ars.get(a);
            if (ar.source != -1) continue;
            int n = 1 + p.dice(3);
            for (int k = 0; k < n; k++) {
                p.call(1, a, p.dice(room) * 2 * ar.q, (1 + p.dice(room)) * ar.q);
            }
        }
    }

    static void giveSome(Play p, int a) {
        Ar ar = p.m.ars.get(a);
        List<int[]> had = new ArrayList<>();
        for (Seg s : p.m.all(ar)) if (s.owner == 1 || s.owner == 4) had.add(new int[] {s.base, s.size, s.owner});
        for (int i = 1; i <= ar.cached; i++) {
            for (int o : new TreeSet<>(ar.objectsOut.get(i).keySet())) had.add(new int[] {o, i * ar.q, 1});
        }
        if (had.isEmpty()) return;
        int[] one = had.get(p.dice(had.size()));
        int size = one[1] - p.dice(ar.q);
        int base = one[0];
        if (p.dice(12) == 0) base += p.dice(3) - 1;
        if (p.dice(12) == 0) size += ar.q * (p.dice(3) - 1);
        boolean within = one[2] == 4 ^ p.dice(15) == 0;
        if (within) p.call(5, a, base, size);
        else p.call(3, a, base, size, p.dice(2));
    }

    static void step(Play p, int kind) {
        int a = p.dice(p.m.ars.size());
        Ar ar = p.m.ars.get(a);
        int giving = kind % 4 == 0 ? 20 : kind % 4 == 1 ? 45 : kind % 4 == 2 ? 35 : 5;
        int what = p.dice(100);
        if (what < giving) {
            giveSome(p, a);
        } else if (what < 80) {
            int[] most = {1, Math.max(1, ar.cached), 12, 40, 300};
            int size = (1 + p.dice(most[p.dice(most.length)])) * ar.q - p.dice(ar.q);
            p.call(2, a, size, p.dice(3), p.dice(2));
        } else if (what < 90) {
            int align = ar.q << p.dice(6);
            int cross = p.dice(2) == 0 ? 0 : ar.q << p.dice(7);
            int size = (1 + p.dice(p.dice(2) == 0 ? 4 : 30)) * ar.q - p.dice(ar.q);
            p.call(4, a, size, align, p.dice(align / ar.q) * ar.q, cross);
        } else if (what < 93) {
            int low = p.dice(2) == 0 ? 0 : p.dice(2000);
            p.call(6, a, low, p.dice(2) == 0 ? TOP : low + p.dice(4000));
        } else if (what < 95) {
            p.call(7, a);
        } else {
            int call = p.dice(NAMES.length);
            int[] v = new int[5];
            for (int i = 0; i < 5; i++) v[i] = wild(p);
            if (p.dice(4) > 0) v[0] = call == 0 ? 1 << p.dice(18) : a;
            // the model goes through such segments number by number
            if (call == 4 && v[1] > 0 && p.m.ars.size() > a && p.m.sum(ar, 0) > 1000000) return;
            p.call(call, v);
        }
    }

    public static void main(String[] args) {
        int runs = args.length > 0 ? Integer.parseInt(args[0]) : 4000;
        int[][] seen = new int[NAMES.length][5];
        int least = 600;
        for (int run = 0; run < runs && wrong < 5; run++) {
            Play p = new Play("run " + run, run);
            setUp(p, run);
            int length = 10 + p.dice(430);
            for (int i = 0; i < length && !p.broken; i++) step(p, run / 3);
            p.compareAll(12);
            least = Math.min(least, p.least);
            for (int i = 0; i < seen.length; i++) for (int k = 0; k < 5; k++) seen[i][k] += p.seen[i][k];
        }
        StringBuilder t = new StringBuilder();
        for (int i = 0; i < seen.length; i++) {
            t.append(NAMES[i]).append(' ').append(seen[i][0]).append('/').append(seen[i][1]).append('/')
                .append(seen[i][2]).append('/').append(seen[i][3]).append("  ");
        }
        System.out.println("answers/-1/-2/thrown: " + t + " least tags " + least);
        System.out.println(wrong == 0 ? "the model and the class agree" : wrong + " runs differ");
        if (wrong != 0) System.exit(1);
    }
}
