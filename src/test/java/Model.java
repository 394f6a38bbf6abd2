import java.util.ArrayList;
import java.util.Arrays;
import java.util.Collections;
import java.util.HashMap;
import java.util.HashSet;
import java.util.List;
import java.util.Map;
import java.util.Set;
import java.util.TreeMap;

/**
 * The document once more, written apart from CordPocket and by other means: sums by cutting ends and
 * joining them in sets, laws by two stacks, rows as arrays of the host, lies as classes of the host.
 */
final class Model {
    static final int BAD = -1, NOT = -2, FULL = -3, BIG = -4, STATE = -5, VOID = -2000000000;

    record Visit(int crossing, boolean over) { }

    static final class Pic {
        List<Visit> visits = new ArrayList<>();
        List<Integer> signs = new ArrayList<>();

        int n() { return signs.size(); }

        Pic copy() {
            Pic p = new Pic();
            p.visits.addAll(visits);
            p.signs.addAll(signs);
            return p;
        }

        /** Numbers crossings as they are first met. */
        static Pic numbered(List<Visit> visits, Map<Integer, Integer> signs) {
            Pic p = new Pic();
            Map<Integer, Integer> names = new HashMap<>();
            for (Visit v : visits) {
                if (!names.containsKey(v.crossing)) {
                    names.put(v.crossing, names.size());
                    p.signs.add(signs.get(v.crossing));
                }
                p.visits.add(new Visit(names.get(v.crossing), v.over));
            }
            return p;
        }

        Map<Integer, Integer> signMap() {
            Map<Integer, Integer> m = new HashMap<>();
            for (int c = 0; c < n(); c++) m.put(c, signs.get(c));
            return m;
        }

        int place(int crossing, boolean over) { return visits.indexOf(new Visit(crossing, over)); }

        int writhe() { int w = 0; for (int s : signs) w += s; return w; }

        void change(int c) {
            for (int k = 0; k < visits.size(); k++) {
                Visit v = visits.get(k);
                if (v.crossing == c) visits.set(k, new Visit(c, !v.over));
            }
            signs.set(c, -signs.get(c));
        }

        Pic changed(int bits) {
            Pic p = copy();
            for (int c = 0; c < n(); c++) if ((bits >> c & 1) == 1) p.change(c);
            return p;
        }

        String tape() {
            StringBuilder b = new StringBuilder();
            Set<Integer> met = new HashSet<>();
            for (Visit v : visits) {
                b.append(v.over ? 'o' : 'u').append((char) ('1' + v.crossing));
                if (met.add(v.crossing)) b.append(signs.get(v.crossing) > 0 ? '+' : '-');
            }
            return b.toString();
        }

        static String end(int visit, boolean in) { return visit + (in ? "in" : "out"); }

        int faces() {
            int len = visits.size();
            if (len == 0) return 2;
            Map<String, String> behind = new HashMap<>();
            for (int c = 0; c < n(); c++) {
                int o = place(c, true), u = place(c, false);
                String[] round = signs.get(c) > 0
                    ? new String[] {end(o, true), end(u, true), end(o, false), end(u, false)}
                    : new String[] {end(o, true), end(u, false), end(o, false), end(u, true)};
                for (int i = 0; i < 4; i++) behind.put(round[i], round[(i + 1) % 4]);
            }
            Map<String, String> along = new HashMap<>();
            for (int k = 0; k < len; k++) {
                along.put(end(k, false), end((k + 1) % len, true));
                along.put(end((k + 1) % len, true), end(k, false));
            }
            Set<String> gone = new HashSet<>();
            int faces = 0;
            for (String start : along.keySet()) {
                if (gone.contains(start)) continue;
                faces++;
                for (String at = start; gone.add(at); ) at = behind.get(along.get(at));
            }
            return faces;
        }

        boolean drawn() { return n() == 0 || faces() == n() + 2; }

        Map<Integer, Long> sum() {
            Map<Integer, Long> all = new TreeMap<>();
            for (int cuts = 0; cuts < 1 << n(); cuts++) {
                Map<Integer, Long> way = new TreeMap<>();
                way.put(n() - 2 * Integer.bitCount(cuts), 1L);
                for (int i = 1; i < loops(cuts); i++) {
                    Map<Integer, Long> next = new TreeMap<>();
                    way.forEach((e, f) -> { next.merge(e + 2, -f, Long::sum); next.merge(e - 2, -f, Long::sum); });
                    way = next;
                }
                way.forEach((e, f) -> all.merge(e, f, Long::sum));
            }
            Map<Integer, Long> sum = new TreeMap<>();
            int w = writhe();
            all.forEach((e, f) -> { if (f != 0) sum.put(e - 3 * w, w % 2 == 0 ? f : -f); });
            return sum;
        }

        /** Bit c of cuts: crossing c is cut in way B. */
        int loops(int cuts) {
            int len = visits.size();
            if (len == 0) return 1;
            int[] in = new int[2 * len];
            for (int i = 0; i < in.length; i++) in[i] = i;
            for (int k = 0; k < len; k++) unite(in, 2 * k + 1, 2 * ((k + 1) % len));
            for (int c = 0; c < n(); c++) {
                int overIn = 2 * place(c, true), underIn = 2 * place(c, false);
                int overOut = overIn + 1, underOut = underIn + 1;
                boolean a = (cuts >> c & 1) == 0;
                boolean toOut = signs.get(c) == 1 ? a : !a;
                if (toOut) { unite(in, overIn, underOut); unite(in, underIn, overOut); }
                else { unite(in, overIn, underIn); unite(in, overOut, underOut); }
            }
            int loops = 0;
            for (int i = 0; i < in.length; i++) if (in[i] == i) loops++;
            return loops;
        }

        static int root(int[] in, int i) { while (in[i] != i) i = in[i]; return i; }

        static void unite(int[] in, int a, int b) { in[root(in, a)] = root(in, b); }

        boolean plain() { return sum().equals(Map.of(0, 1L)); }

        boolean follow(int a, int b) { return Math.abs(a - b) == 1 || Math.abs(a - b) == visits.size() - 1; }

        /** The crossings of the first move; none if it is empty. */
        List<Integer> move() {
            for (int c = 0; c < n(); c++) if (follow(place(c, true), place(c, false))) return List.of(c);
            for (int c = 0; c < n(); c++) {
                for (int d = c + 1; d < n(); d++) {
                    if (signs.get(c) + signs.get(d) == 0 && follow(place(c, true), place(d, true))
                        && follow(place(c, false), place(d, false))) return List.of(c, d);
                }
            }
            return List.of();
        }

        Pic without(List<Integer> gone) {
            List<Visit> left = new ArrayList<>(visits);
            left.removeIf(v -> gone.contains(v.crossing));
            return numbered(left, signMap());
        }
    }

    final List<Pic> pics = new ArrayList<>();
    String tape = "";
    String law = "";
    final List<int[]> changes = new ArrayList<>();
    int doneChanges;
    final List<LiesOfHost.Lie> lies = new ArrayList<>();
    final List<Integer> trace = new ArrayList<>();
    final Object[] shelves = new Object[6];

    boolean isPic(int p) { return p >= 0 && p < pics.size(); }

    int add(Pic p) { pics.add(p); return pics.size() - 1; }

    int feed(int n, int v) {
        if (n < 1 || n > 4) return BAD;
        if (tape.length() + n > 120) return FULL;
        for (int i = 0; i < n; i++) tape += (char) (v >>> 8 * i & 255);
        return tape.length();
    }

    /** All digits that may stand behind an o or u. */
    static String digits(Pic p, boolean over) {
        String all = "";
        for (int c = 0; c < p.n(); c++) if (p.place(c, over) < 0) all += (char) ('1' + c);
        return p.n() < 7 ? all + (char) ('1' + p.n()) : all;
    }

    int picture() {
        if (pics.size() == 12) return FULL;
        String t = tape;
        tape = "";
        Pic p = new Pic();
        int k = 0;
        while (k < t.length()) {
            boolean over = t.charAt(k) == 'o';
            if ("ou".indexOf(t.charAt(k)) < 0 || digits(p, over).isEmpty()) return -100 - k;
            if (++k == t.length()) return -100 - k;
            if (digits(p, over).indexOf(t.charAt(k)) < 0) return -100 - k;
            int c = t.charAt(k++) - '1';
            if (c == p.n()) {
                if (k == t.length() || "+-".indexOf(t.charAt(k)) < 0) return -100 - k;
                p.signs.add(t.charAt(k++) == '+' ? 1 : -1);
            }
            p.visits.add(new Visit(c, over));
        }
        if (p.visits.size() != 2 * p.n()) return -100 - k;
        return p.drawn() ? add(p) : NOT;
    }

    int fromRow(int shelf, int i, int n) {
        if (shelf < 0 || shelf > 5 || n < 0 || n > 7) return BAD;
        if (pics.size() == 12) return FULL;
        if (shelves[shelf] == null) return -11;
        if (!(shelves[shelf] instanceof byte[] row)) return -12;
        if (i < 0 || (long) i + 2 * n > row.length) return -13;
        Pic p = new Pic();
        for (int k = i; k < i + 2 * n; k++) {
            int told = Math.abs((int) row[k]), sign = row[k] < 0 ? -1 : 1, c = told / 10 - 1;
            boolean over = told % 10 == 1;
            if (told % 10 > 1 || told < 10 || told > 71 || digits(p, over).indexOf((char) ('1' + c)) < 0) return NOT;
            if (c == p.n()) p.signs.add(sign);
            else if (p.signs.get(c) != sign) return NOT;
            p.visits.add(new Visit(c, over));
        }
        return p.visits.size() == 2 * p.n() && p.drawn() ? add(p) : NOT;
    }

    /** A plait closed to a cord, or null. */
    static Pic closed(String word, int m) {
        List<Visit> visits = new ArrayList<>();
        Map<Integer, Integer> signs = new HashMap<>();
        int at = 0, rounds = 0;
        do {
            rounds++;
            for (int i = 0; i < word.length(); i++) {
                int left = Character.toLowerCase(word.charAt(i)) - 'a';
                boolean small = Character.isLowerCase(word.charAt(i));
                if (at != left && at != left + 1) continue;
                visits.add(new Visit(i, small == (at == left)));
                signs.put(i, small ? 1 : -1);
                at = 2 * left + 1 - at;
            }
        } while (at != 0);
        return rounds == m ? Pic.numbered(visits, signs) : null;
    }

    static String letters(int m) { return "abc".substring(0, m - 1) + "ABC".substring(0, m - 1); }

    int plait(int m) {
        if (m < 2 || m > 4) return BAD;
        if (pics.size() == 12) return FULL;
        String t = tape;
        tape = "";
        for (int k = 0; k < t.length(); k++) if (k == 7 || letters(m).indexOf(t.charAt(k)) < 0) return -100 - k;
        Pic p = closed(t, m);
        return p == null ? NOT : add(p);
    }

    int of(int picture, int what) {
        if (!isPic(picture)) return VOID;
        Pic p = pics.get(picture);
        switch (what) {
            case 0: return p.n();
            case 1: return p.writhe();
            case 2: return p.faces();
            case 3: return ((TreeMap<Integer, Long>) p.sum()).firstKey();
            case 4: return ((TreeMap<Integer, Long>) p.sum()).lastKey();
            case 5: return p.plain() ? 1 : 0;
            case 6:
                for (int i = 0; i < picture; i++) if (pics.get(i).sum().equals(p.sum())) return i;
                return NOT;
            default: return VOID;
        }
    }

    int led(int picture, int k, int what) {
        if (!isPic(picture)) return VOID;
        Pic p = pics.get(picture);
        if (k < 0 || k >= p.visits.size()) return VOID;
        Visit v = p.visits.get(k);
        if (what == 0) return 10 * v.crossing + (v.over ? 1 : 0);
        if (what == 1) return p.signs.get(v.crossing);
        return what == 2 ? p.place(v.crossing, !v.over) : VOID;
    }

    int sum(int picture, int e) {
        return !isPic(picture) || Math.abs((long) e) > 60 ? VOID : (int) (long) pics.get(picture).sum().getOrDefault(e, 0L);
    }

    int alike(int pq) {
        if (pq < 0 || !isPic(pq / 100) || !isPic(pq % 100)) return BAD;
        return pics.get(pq / 100).sum().equals(pics.get(pq % 100).sum()) ? 1 : 0;
    }

    int mirror(int picture) {
        if (!isPic(picture)) return BAD;
        return pics.size() == 12 ? FULL : add(pics.get(picture).changed(127));
    }

    int turn(int picture) {
        if (!isPic(picture)) return BAD;
        if (pics.size() == 12) return FULL;
        List<Visit> back = new ArrayList<>(pics.get(picture).visits);
        Collections.reverse(back);
        return add(Pic.numbered(back, pics.get(picture).signMap()));
    }

    int join(int pq) {
        if (pq < 0 || !isPic(pq / 100) || !isPic(pq % 100)) return BAD;
        if (pics.size() == 12) return FULL;
        Pic p = pics.get(pq / 100).copy(), q = pics.get(pq % 100);
        int n = p.n();
        if (n + q.n() > 7) return BIG;
        for (Visit v : q.visits) p.visits.add(new Visit(n + v.crossing, v.over));
        p.signs.addAll(q.signs);
        return add(p);
    }

    int change(int picture, int crossing) {
        if (!isPic(picture) || crossing < 0 || crossing >= pics.get(picture).n()) return VOID;
        pics.get(picture).change(crossing);
        while (changes.size() > doneChanges) changes.remove(doneChanges);
        changes.add(new int[] {picture, crossing});
        if (changes.size() > 40) changes.remove(0);
        doneChanges = changes.size();
        return pics.get(picture).writhe();
    }

    int pulls(int picture, int what) {
        if (!isPic(picture) || what < 0 || what > 1) return BAD;
        Pic p = pics.get(picture);
        for (int many = 0; many <= p.n(); many++) {
            for (int bits = 0; bits < 1 << p.n(); bits++) {
                if (Integer.bitCount(bits) == many && p.changed(bits).plain()) return what == 0 ? many : bits;
            }
        }
        throw new IllegalStateException("a picture that never comes out: " + p.tape());
    }

    int moves(int picture, int what) {
        if (!isPic(picture) || what < 0 || what > 1) return BAD;
        List<Integer> gone = pics.get(picture).move();
        if (what == 0) return gone.size();
        if (gone.isEmpty()) return NOT;
        return gone.size() == 1 ? gone.get(0) : 10 * gone.get(0) + gone.get(1);
    }

    int simpler(int picture, int what) {
        if (!isPic(picture) || what < 0 || what > 1) return BAD;
        Pic p = pics.get(picture);
        int done = 0;
        for (; !p.move().isEmpty(); done++) p = p.without(p.move());
        if (!p.drawn()) throw new IllegalStateException("a move left what can't be drawn");
        return what == 0 ? done : p.n();
    }

    int simplify(int picture) {
        if (!isPic(picture)) return BAD;
        while (!pics.get(picture).move().isEmpty()) pics.set(picture, pics.get(picture).without(pics.get(picture).move()));
        changes.clear();
        doneChanges = 0;
        return pics.get(picture).n();
    }

    int parted(int picture, int what) {
        if (!isPic(picture) || what < 0 || what > 1) return BAD;
        Pic p = pics.get(picture);
        int len = p.visits.size();
        for (int many = 2; many < len; many++) {
            for (int from = 0; from < len; from++) {
                Set<Visit> held = new HashSet<>();
                for (int i = 0; i < many; i++) held.add(p.visits.get((from + i) % len));
                boolean all = true;
                for (Visit v : held) all &= held.contains(new Visit(v.crossing, !v.over));
                if (all) return what == 0 ? many : from;
            }
        }
        return NOT;
    }

    int hidden(int picture, int crossings, int what) {
        if (!isPic(picture) || what < 0 || what > 1) return BAD;
        Pic p = pics.get(picture);
        if (crossings < 0 || crossings >> p.n() != 0) return BAD;
        Set<Map<Integer, Long>> sums = new HashSet<>();
        int plain = 0;
        for (int bits = 0; bits < 1 << p.n(); bits++) {
            if ((bits | crossings) != crossings) continue;
            sums.add(p.changed(bits).sum());
            if (p.changed(bits).plain()) plain++;
        }
        return what == 0 ? plain : sums.size();
    }

    /** What comes of words, kept for all models: an empty map for several cords. */
    private static final Map<String, Map<Integer, Long>> OUTCOMES = new HashMap<>();

    static Map<Integer, Long> outcome(String word, int m) {
        return OUTCOMES.computeIfAbsent(m + word, key -> {
            Pic p = closed(word, m);
            return p == null ? Map.of() : p.sum();
        });
    }

    int lots(int ml, int what) {
        int m = ml / 10, many = ml % 10;
        if (ml < 0 || m < 2 || m > 4 || many < 1 || many > (m == 4 ? 5 : 6)) return BAD;
        if (what < -2 || what >= pics.size()) return BAD;
        Map<Integer, Long> wanted = what >= 0 ? pics.get(what).sum() : Map.of(0, 1L);
        int count = 0;
        List<String> words = List.of("");
        for (int i = 0; i < many; i++) {
            List<String> longer = new ArrayList<>();
            for (String w : words) for (char c : letters(m).toCharArray()) longer.add(w + c);
            words = longer;
        }
        for (String w : words) {
            Map<Integer, Long> sum = outcome(w, m);
            if (!sum.isEmpty() && (what == -2 || sum.equals(wanted))) count++;
        }
        return count;
    }

    int law() {
        String t = tape;
        tape = "";
        int fault = LawOfStacks.fault(t);
        if (fault >= 0) return -100 - fault;
        law = t;
        return 1;
    }

    /** How many are knotted, how many several. */
    int[] shaken(int times, int length, int box, int stiff, int m, int seed) {
        int[] counts = new int[2];
        int z = seed;
        for (int i = 0; i < times; i++) {
            z = z * 1103515245 + 12345;
            int draw = (z >>> 8) % 100;
            int many = law.isEmpty() ? 0 : LawOfStacks.value(law, Map.of('n', length, 'b', box, 's', stiff, 'z', draw, 'm', m));
            String word = "";
            for (int k = 0; k < Math.max(0, Math.min(6, many)); k++) {
                z = z * 1103515245 + 12345;
                word += "aAbBcC".charAt((z >>> 8) % (2 * m - 2));
            }
            Map<Integer, Long> sum = outcome(word, m);
            if (sum.isEmpty()) counts[1]++;
            else if (!sum.equals(Map.of(0, 1L))) counts[0]++;
        }
        return counts;
    }

    static boolean badSm(int sm) { return sm < 0 || sm / 10 > 9 || sm % 10 < 2 || sm % 10 > 4; }

    int shake(int nb, int sm, int seed, int tn) {
        if (nb < 0 || nb / 100 > 99 || badSm(sm) || tn < 10 || tn / 10 > 50 || tn % 10 > 1) return BAD;
        return shaken(tn / 10, nb / 100, nb % 100, sm / 10, sm % 10, seed)[tn % 10];
    }

    int least(int box, int sm, int seed, int v) {
        if (box < 0 || box > 99 || badSm(sm) || v < 1 || v > 20) return BAD;
        for (int length = 0; length < 100; length++) {
            if (shaken(20, length, box, sm / 10, sm % 10, seed)[0] >= v) return length;
        }
        return NOT;
    }

    int undo() {
        if (doneChanges == 0) return STATE;
        int[] c = changes.get(--doneChanges);
        pics.get(c[0]).change(c[1]);
        return doneChanges;
    }

    int redo() {
        if (doneChanges == changes.size()) return STATE;
        int[] c = changes.get(doneChanges++);
        pics.get(c[0]).change(c[1]);
        return changes.size() - doneChanges;
    }

    int body(int kind) {
        if (kind < 0 || kind > 7) return BAD;
        if (lies.size() == 50) return FULL;
        lies.add(LiesOfHost.make(kind, lies.size(), trace));
        return lies.size() - 1;
    }

    int act(int body, int act, int x) {
        trace.clear();
        if (body < 0 || body >= lies.size() || act < 0 || act > 3) return 0;
        LiesOfHost.Lie lie = lies.get(body);
        switch (act) {
            case 0: return lie.lies(x);
            case 1: return lie.crosses(x);
            case 2: return lie.undoes(x);
            default: return lie.tells(x);
        }
    }

    int trace(int i) { return i < 0 || i >= Math.min(24, trace.size()) ? BAD : trace.get(i); }

    int keep(int shelf, int body) {
        if (shelf < 0 || shelf > 5 || body < -1 || body >= lies.size()) return BAD;
        shelves[shelf] = body < 0 ? null : lies.get(body);
        return 1;
    }

    int row(int shelf, int sort, int n) {
        if (shelf < 0 || shelf > 5 || sort < 0 || sort > 4 || n > 60) return BAD;
        try {
            shelves[shelf] = switch (sort) {
                case 0 -> new byte[n];
                case 1 -> new short[n];
                case 2 -> new int[n];
                case 3 -> new long[n];
                default -> new boolean[n];
            };
            return 1;
        } catch (NegativeArraySizeException e) {
            return -14;
        }
    }

    int put(int shelf, int i, long v) {
        if (shelf < 0 || shelf > 5) return BAD;
        Object held = shelves[shelf];
        if (held == null) return -11;
        try {
            if (held instanceof byte[] r) r[i] = (byte) v;
            else if (held instanceof short[] r) r[i] = (short) v;
            else if (held instanceof int[] r) r[i] = (int) v;
            else if (held instanceof long[] r) r[i] = v;
            else if (held instanceof boolean[] r) r[i] = v != 0;
            else return -12;
            return 1;
        } catch (ArrayIndexOutOfBoundsException e) {
            return -13;
        }
    }

    long element(int shelf, int i) {
        if (shelf < 0 || shelf > 5) return Long.MIN_VALUE;
        Object held = shelves[shelf];
        try {
            if (held instanceof byte[] r) return r[i];
            if (held instanceof short[] r) return r[i];
            if (held instanceof int[] r) return r[i];
            if (held instanceof long[] r) return r[i];
            if (held instanceof boolean[] r) return r[i] ? 1 : 0;
        } catch (ArrayIndexOutOfBoundsException e) {
            return Long.MIN_VALUE;
        }
        return Long.MIN_VALUE;
    }

    int shift(int shelf, int i, int other, int j, int n) {
        if (shelf < 0 || shelf > 5 || other < 0 || other > 5) return BAD;
        try {
            System.arraycopy(shelves[shelf], i, shelves[other], j, n);
            return n;
        } catch (NullPointerException e) {
            return -11;
        } catch (ArrayStoreException e) {
            return -12;
        } catch (IndexOutOfBoundsException e) {
            return -13;
        }
    }

    int taken(int shelf, int k) {
        if (shelf < 0 || shelf > 5 || k < 0 || k > 7) return BAD;
        if (shelves[shelf] == null) return -11;
        return LiesOfHost.CLASSES.get(k).isInstance(shelves[shelf]) ? ((LiesOfHost.Lie) shelves[shelf]).kind() : -12;
    }

    int count(int what) {
        int[] all = {pics.size(), tape.length(), doneChanges, lies.size(), trace.size()};
        return what < 0 || what > 4 ? BAD : all[what];
    }

    /** What tells of a picture all that led() tells: for comparing. */
    int[] allOf(int picture) {
        Pic p = pics.get(picture);
        return Arrays.copyOf(p.visits.stream().mapToInt(v -> 10 * v.crossing + (v.over ? 1 : 0)).toArray(), 14);
    }
}
