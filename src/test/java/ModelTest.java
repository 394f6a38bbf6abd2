import java.util.ArrayList;
import java.util.Collections;
import java.util.HashMap;
import java.util.List;
import java.util.Map;
import java.util.Random;

/** Long runs of calls by lot: CordPocket and the model must answer alike, call by call. */
public final class ModelTest {
    private static final int RUNS = 540, CALLS = 512;
    private static int wrong;

    private final Random lot;
    private final CordPocket pocket = new CordPocket();
    private final Model model = new Model();
    private final List<String> calls = new ArrayList<>();
    private boolean parted;
    private int dear = 12;

    private ModelTest(int seed) { lot = new Random(seed); }

    public static void main(String[] args) {
        int passed = 0;
        for (int run = 0; run < RUNS; run++) {
            if (new ModelTest(run).run()) passed++;
            else wrong++;
        }
        System.out.println("ModelTest: " + passed + " passed, " + wrong + " failed");
        if (wrong != 0) System.exit(1);
    }

    private boolean run() {
        while (calls.size() < CALLS - 150 && !parted) step();
        if (parted) for (String call : calls.subList(Math.max(0, calls.size() - 30), calls.size())) System.out.println("  " + call);
        return !parted;
    }

    private void same(String call, long got, long want) {
        calls.add(call + " = " + got);
        if (got == want || parted) return;
        parted = true;
        calls.add("    due is " + want);
    }

    private int below(int n) { return lot.nextInt(n); }

    private boolean oneIn(int n) { return lot.nextInt(n) == 0; }

    /** Mostly one of 0 .. n - 1, at times one that is just beyond, or far. */
    private int near(int n) {
        if (oneIn(40)) return lot.nextInt();
        if (oneIn(12)) return oneIn(2) ? -1 : n;
        return n > 0 ? below(n) : 0;
    }

    private int picture() { return near(model.pics.size()); }

    private int pair() { return oneIn(20) ? lot.nextInt(3000) - 300 : 100 * picture() + picture(); }

    private int crossing(int p) { return near(model.isPic(p) ? model.pics.get(p).n() : 1); }

    private void feed(String text) {
        for (int k = 0; k < text.length(); ) {
            int n = Math.min(1 + below(4), text.length() - k);
            int v = oneIn(2) ? 0 : lot.nextInt();
            for (int i = 0; i < n; i++) v = v & ~(255 << 8 * i) | text.charAt(k + i) << 8 * i;
            same("feed(" + n + ", " + v + ")", pocket.feed(n, v), model.feed(n, v));
            k += n;
        }
    }

    private String mutated(String text) {
        if (!oneIn(4) || text.isEmpty()) return text;
        StringBuilder b = new StringBuilder(text);
        int k = below(b.length());
        switch (below(4)) {
            case 0: b.deleteCharAt(k); break;
            case 1: b.setCharAt(k, text.charAt(below(text.length()))); break;
            case 2: b.insert(k, text.charAt(below(text.length()))); break;
            default: b.setLength(k); break;
        }
        return b.toString();
    }

    private String word(int m, int most) {
        String letters = Model.letters(m);
        StringBuilder b = new StringBuilder();
        int n = below(most + 1);
        for (int i = 0; i < n; i++) b.append(letters.charAt(below(letters.length())));
        return b.toString();
    }

    /** A picture that may be drawn, from a plait, begun at any visit. */
    private Model.Pic somePicture() {
        for (int tries = 0; tries < 50; tries++) {
            int m = 2 + below(3);
            Model.Pic p = Model.closed(word(m, 7), m);
            if (p == null) continue;
            List<Model.Visit> visits = new ArrayList<>(p.visits);
            if (!visits.isEmpty()) Collections.rotate(visits, below(visits.size()));
            p = Model.Pic.numbered(visits, p.signMap());
            return oneIn(3) ? p.changed(below(128)) : p;
        }
        return new Model.Pic();
    }

    /** Any visits at all, as a picture may be told but mostly not drawn. */
    private Model.Pic anyVisits() {
        int n = 1 + below(5);
        List<Model.Visit> visits = new ArrayList<>();
        Map<Integer, Integer> signs = new HashMap<>();
        for (int c = 0; c < n; c++) {
            visits.add(new Model.Visit(c, true));
            visits.add(new Model.Visit(c, false));
            signs.put(c, oneIn(2) ? 1 : -1);
        }
        Collections.shuffle(visits, lot);
        return Model.Pic.numbered(visits, signs);
    }

    private String law(int depth) {
        StringBuilder b = new StringBuilder();
        int lines = 1 + below(3);
        for (int i = 0; i < lines; i++) {
            if (i > 0) b.append(';');
            b.append(either(depth));
            if (oneIn(2)) b.append('?').append(either(depth));
        }
        return b.toString();
    }

    private String either(int depth) {
        StringBuilder b = new StringBuilder(oneIn(3) ? compared(depth) : added(depth));
        if (oneIn(5)) b.append(oneIn(2) ? '|' : '&').append(compared(depth));
        return b.toString();
    }

    private String compared(int depth) { return added(depth) + "<=>".charAt(below(3)) + added(depth); }

    private String added(int depth) {
        StringBuilder b = new StringBuilder(single(depth));
        while (oneIn(2)) b.append("+-*/%".charAt(below(5))).append(single(depth));
        return b.toString();
    }

    private String single(int depth) {
        switch (below(depth > 0 ? 7 : 4)) {
            case 0: return "" + below(oneIn(3) ? 10000 : 8);
            case 1: case 2: case 3: return "" + "nbszm".charAt(below(5));
            case 4: return "!" + single(depth - 1);
            case 5: return "-" + single(depth - 1);
            default: return "(" + either(depth - 1) + ")";
        }
    }

    private String someLaw() {
        String text = law(below(8));
        return oneIn(4) ? text + (oneIn(2) ? "%7" : "/14") : text;
    }

    private void step() {
        switch (below(24)) {
            case 0: case 1: makePicture(); break;
            case 2: makePlait(); break;
            case 3: makeFromRow(); break;
            case 4: case 5: case 6: askPicture(); break;
            case 7: case 8: askSums(); break;
            case 9: makeOther(); break;
            case 10: case 11: changeOne(); break;
            case 12: case 13: askMoves(); break;
            case 14: askHidden(); break;
            case 15: case 16: shakeSome(); break;
            case 17: case 18: actOne(); break;
            case 19: case 20: case 21: useShelf(); break;
            case 22: feedAny(); break;
            default: countOne(); break;
        }
    }

    private void makePicture() {
        if (model.pics.size() > 6 && !oneIn(6)) return;
        feed(mutated(oneIn(4) ? anyVisits().tape() : somePicture().tape()));
        same("picture()", pocket.picture(), model.picture());
    }

    private void makePlait() {
        if (model.pics.size() > 8 && !oneIn(6)) return;
        int m = oneIn(10) ? near(5) : 2 + below(3);
        feed(mutated(word(m < 2 || m > 4 ? 3 : m, 8)));
        same("plait(" + m + ")", pocket.plait(m), model.plait(m));
    }

    private void makeFromRow() {
        int shelf = below(6), from = below(4);
        Model.Pic p = oneIn(6) ? anyVisits() : somePicture();
        if (calls.size() > CALLS - 80) return;
        if (oneIn(10)) from = 60;
        int sort = oneIn(8) ? below(5) : 0, size = Math.min(60, from + 2 * p.n() + (oneIn(6) ? -1 : below(3)));
        same("row(" + shelf + ", " + sort + ", " + size + ")", pocket.row(shelf, sort, size), model.row(shelf, sort, size));
        for (int k = 0; k < p.visits.size(); k++) {
            Model.Visit v = p.visits.get(k);
            long told = (10 * (v.crossing() + 1) + (v.over() ? 1 : 0)) * p.signs.get(v.crossing());
            if (oneIn(40)) told = oneIn(2) ? -told : told + below(30) - 15;
            put(shelf, from + k, told);
        }
        int n = oneIn(8) ? near(8) : p.n();
        int i = oneIn(20) ? near(61) : from;
        same("fromRow(" + shelf + ", " + i + ", " + n + ")", pocket.fromRow(shelf, i, n), model.fromRow(shelf, i, n));
    }

    private void put(int shelf, int i, long v) {
        same("put(" + shelf + ", " + i + ", " + v + ")", pocket.put(shelf, i, v), model.put(shelf, i, v));
    }

    private void askPicture() {
        int p = picture(), k = near(model.isPic(p) ? 2 * model.pics.get(p).n() : 1), what = near(7);
        same("of(" + p + ", " + what + ")", pocket.of(p, what), model.of(p, what));
        what = near(3);
        same("led(" + p + ", " + k + ", " + what + ")", pocket.led(p, k, what), model.led(p, k, what));
    }

    private void askSums() {
        int p = picture(), e = oneIn(10) ? lot.nextInt(130) - 65 : oneIn(20) ? lot.nextInt() : 4 * (below(21) - 10), pq = pair();
        same("sum(" + p + ", " + e + ")", pocket.sum(p, e), model.sum(p, e));
        same("alike(" + pq + ")", pocket.alike(pq), model.alike(pq));
    }

    private void makeOther() {
        int p = picture(), pq = pair();
        switch (below(3)) {
            case 0: same("mirror(" + p + ")", pocket.mirror(p), model.mirror(p)); break;
            case 1: same("turn(" + p + ")", pocket.turn(p), model.turn(p)); break;
            default: same("join(" + pq + ")", pocket.join(pq), model.join(pq)); break;
        }
    }

    private void changeOne() {
        if (oneIn(30)) {
            for (int i = 0; i < 45 && calls.size() < CALLS - 60; i++) change();
        }
        switch (below(4)) {
            case 0: case 1: change(); break;
            case 2: same("undo()", pocket.undo(), model.undo()); break;
            default: same("redo()", pocket.redo(), model.redo()); break;
        }
    }

    private void change() {
        int p = picture(), c = crossing(p);
        same("change(" + p + ", " + c + ")", pocket.change(p, c), model.change(p, c));
    }

    private void askMoves() {
        int p = picture(), what = near(2);
        switch (below(oneIn(3) ? 5 : 4)) {
            case 0: same("moves(" + p + ", " + what + ")", pocket.moves(p, what), model.moves(p, what)); break;
            case 1: same("simpler(" + p + ", " + what + ")", pocket.simpler(p, what), model.simpler(p, what)); break;
            case 2: same("parted(" + p + ", " + what + ")", pocket.parted(p, what), model.parted(p, what)); break;
            case 3:
                if (dear-- > 0) same("pulls(" + p + ", " + what + ")", pocket.pulls(p, what), model.pulls(p, what));
                break;
            default: same("simplify(" + p + ")", pocket.simplify(p), model.simplify(p)); break;
        }
    }

    private void askHidden() {
        int p = picture(), bits = near(model.isPic(p) ? 1 << model.pics.get(p).n() : 1), what = near(2);
        if (dear-- > 0) same("hidden(" + p + ", " + bits + ", " + what + ")", pocket.hidden(p, bits, what), model.hidden(p, bits, what));
    }

    private void shakeSome() {
        if (oneIn(2)) {
            feed(mutated(someLaw()));
            same("law()", pocket.law(), model.law());
            return;
        }
        int sm = oneIn(10) ? near(120) : 10 * near(10) + 2 + below(3), seed = lot.nextInt();
        if (oneIn(4)) {
            int box = near(100), v = 1 + (oneIn(3) ? near(20) : below(6));
            same("least(" + box + ", " + sm + ", " + seed + ", " + v + ")", pocket.least(box, sm, seed, v), model.least(box, sm, seed, v));
        } else if (oneIn(3)) {
            int ml = oneIn(4) ? near(60) : 10 * (2 + below(3)) + 1 + below(5), what = oneIn(3) ? picture() : near(3) - 2;
            same("lots(" + ml + ", " + what + ")", pocket.lots(ml, what), model.lots(ml, what));
        } else {
            int nb = near(10000), tn = oneIn(8) ? near(520) : 10 * (1 + below(50)) + below(2);
            same("shake(" + nb + ", " + sm + ", " + seed + ", " + tn + ")", pocket.shake(nb, sm, seed, tn), model.shake(nb, sm, seed, tn));
        }
    }

    private void actOne() {
        int kind = near(8);
        if (oneIn(3)) same("body(" + kind + ")", pocket.body(kind), model.body(kind));
        if (oneIn(30)) for (int i = 0; i < 20 && calls.size() < CALLS - 60; i++) same("body(1)", pocket.body(1), model.body(1));
        int body = near(model.lies.size()), act = near(4), x = oneIn(2) ? below(20) - 10 : lot.nextInt();
        same("act(" + body + ", " + act + ", " + x + ")", pocket.act(body, act, x), model.act(body, act, x));
        int i = near(Math.max(1, model.trace.size()));
        same("trace(" + i + ")", pocket.trace(i), model.trace(i));
    }

    private void useShelf() {
        int shelf = near(6), other = near(6), i = oneIn(3) ? near(61) : below(10), j = oneIn(3) ? near(61) : below(10);
        switch (below(8)) {
            case 0: {
                int body = near(model.lies.size());
                same("keep(" + shelf + ", " + body + ")", pocket.keep(shelf, body), model.keep(shelf, body));
                break;
            }
            case 1: case 2: {
                int sort = near(5), n = oneIn(3) ? near(61) : 6 + below(10);
                same("row(" + shelf + ", " + sort + ", " + n + ")", pocket.row(shelf, sort, n), model.row(shelf, sort, n));
                break;
            }
            case 3: case 4: put(shelf, i, oneIn(3) ? 0 : oneIn(2) ? lot.nextInt(400) - 200 : lot.nextLong()); break;
            case 5: same("element(" + shelf + ", " + i + ")", pocket.element(shelf, i), model.element(shelf, i)); break;
            case 6: {
                int n = oneIn(3) ? near(61) : below(6);
                if (oneIn(3)) other = shelf;
                same("shift(" + shelf + ", " + i + ", " + other + ", " + j + ", " + n + ")",
                    pocket.shift(shelf, i, other, j, n), model.shift(shelf, i, other, j, n));
                for (int s = 0; s < 6; s++) same("element(" + s + ", " + j + ")", pocket.element(s, j), model.element(s, j));
                break;
            }
            default: {
                int k = near(8);
                same("taken(" + shelf + ", " + k + ")", pocket.taken(shelf, k), model.taken(shelf, k));
                break;
            }
        }
    }

    private void feedAny() {
        int n = near(6), v = lot.nextInt();
        if (!oneIn(3)) return;
        same("feed(" + n + ", " + v + ")", pocket.feed(n, v), model.feed(n, v));
        if (oneIn(3)) feed("n".repeat(118));
        switch (below(3)) {
            case 0: same("law()", pocket.law(), model.law()); break;
            case 1: same("picture()", pocket.picture(), model.picture()); break;
            default: same("plait(3)", pocket.plait(3), model.plait(3)); break;
        }
    }

    private void countOne() {
        int what = near(5);
        same("count(" + what + ")", pocket.count(what), model.count(what));
    }
}
