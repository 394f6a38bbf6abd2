import java.util.ArrayList;
import java.util.List;
import java.util.function.Consumer;
import java.util.function.ToLongFunction;

/** What is refused, or told in thought only, changes nothing; and which of several refusals is answered. */
final class RefusalEdges {
    private static final int MIN = Integer.MIN_VALUE, MAX = Integer.MAX_VALUE;
    private static final int BAD = -1, NOT = -2, FULL = -3, BIG = -4, STATE = -5, VOID = -2000000000;
    private static final long NONE = Long.MIN_VALUE;

    private static void due(long want, long got) { Sentences.due(want, got); }

    static void run() {
        refusedWithAllFull();
        refusedWithRoom();
        tapeEmptied();
        inThought();
        theOneNamedFirst();
    }

    /** Some of everything, and a tape. */
    private static void part(CordPocket x) {
        partWithoutTape(x);
        Sentences.tapeOn(x, "!n");
    }

    private static void partUnchanged(CordPocket x) {
        part(x);
        x.undo();
        x.undo();
    }

    private static void partWithoutTape(CordPocket x) {
        Sentences.tapeOn(x, PictureEdges.TREFOIL);
        x.picture();
        Sentences.tapeOn(x, "aaaa");
        Sentences.tapeOn(x, "A");
        x.plait(2);
        x.picture();
        Sentences.tapeOn(x, "n>50?5;z%7");
        x.law();
        x.change(0, 1);
        x.change(1, 0);
        x.change(1, 2);
        x.undo();
        for (int kind = 0; kind <= 7; kind++) x.body(kind);
        x.act(3, 3, 5);
        x.keep(1, 7);
        for (int sort = 0; sort <= 2; sort++) {
            x.row(2 + sort, sort == 0 ? 0 : 2 + sort, 8);
            for (int i = 0; i < 8; i++) x.put(2 + sort, i, 10 + i % 2);
        }
        x.row(5, 0, 0);
    }

    /** All that has a bound is full: pictures, lies, the tape. */
    private static void whole(CordPocket x) {
        x.law();
        for (int i = 0; i < 12; i++) x.picture();
        for (int i = 0; i < 50; i++) x.body(2);
        part(x);
        for (int i = 0; i < 30; i++) x.feed(4, 0x6e6e6e21);
        x.feed(2, 0x2121);
        x.act(3, 3, 5);
    }

    /** All that can be seen of an object, to its last change. */
    private static List<Long> seen(CordPocket x) {
        List<Long> all = new ArrayList<>();
        for (int what = 0; what <= 4; what++) all.add((long) x.count(what));
        for (int i = 0; i < 8; i++) all.add((long) x.trace(i));
        for (int p = 0; p < x.count(0); p++) {
            if (p > 2 && p < 11) continue;
            for (int what = 0; what <= 6; what++) all.add((long) x.of(p, what));
            for (int k = 0; k < 2 * x.of(p, 0); k++) all.add((long) x.led(p, k, 0));
        }
        for (int shelf = 0; shelf <= 5; shelf++) {
            all.add((long) x.taken(shelf, 0));
            for (int i = 0; i < 9; i++) all.add(x.element(shelf, i));
            all.add((long) x.put(shelf, 7, 1));
        }
        all.add((long) x.act(7, 3, 9));
        all.add((long) x.act(0, 3, 9));
        for (int nb : new int[] {0, 5000, 9900}) for (int what = 0; what <= 1; what++) all.add((long) x.shake(nb, 3, 4, 200 + what));
        all.add((long) x.redo());
        for (int i = 0; i < 4; i++) {
            all.add((long) x.undo());
            for (int p = 0; p < 2; p++) all.add((long) x.of(p, 1));
        }
        // what is on the tape is told by the law that it gives, or by its fault
        all.add((long) x.law());
        for (int nb : new int[] {0, 5000, 9900}) for (int what = 0; what <= 1; what++) all.add((long) x.shake(nb, 3, 4, 200 + what));
        return all;
    }

    /** Two objects of one making are still alike when one of them has answered the call. */
    private static void silent(Consumer<CordPocket> making, long want, ToLongFunction<CordPocket> call) {
        CordPocket one = new CordPocket(), other = new CordPocket();
        making.accept(one);
        making.accept(other);
        due(want, call.applyAsLong(one));
        due(1, seen(one).equals(seen(other)) ? 1 : 0);
    }

    private static void full(long want, ToLongFunction<CordPocket> call) {
        silent(RefusalEdges::whole, want, call);
    }

    private static void room(long want, ToLongFunction<CordPocket> call) {
        silent(RefusalEdges::part, want, call);
    }

    /** The same but for the tape, which is empty then. */
    private static void emptied(String tape, long want, ToLongFunction<CordPocket> call) {
        CordPocket one = new CordPocket(), other = new CordPocket();
        partWithoutTape(one);
        partWithoutTape(other);
        Sentences.tapeOn(one, tape);
        due(want, call.applyAsLong(one));
        due(1, seen(one).equals(seen(other)) ? 1 : 0);
    }

    private static void says(int promise) {
        Sentences.says(promise, "What is answered so changes nothing.");
    }

    private static void refusedWithAllFull() {
        says(2);
        full(FULL, x -> x.feed(1, 'n'));
        full(FULL, x -> x.feed(4, 0));
        full(BAD, x -> x.feed(0, 0));
        full(BAD, x -> x.feed(5, 0));
        says(4);
        full(FULL, x -> x.fromRow(2, 0, 0));
        full(FULL, x -> x.fromRow(0, 0, 0));
        full(BAD, x -> x.fromRow(6, 0, 0));
        says(5);
        full(FULL, x -> x.plait(2));
        full(BAD, x -> x.plait(5));
        says(10);
        full(FULL, x -> x.mirror(1));
        full(BAD, x -> x.mirror(12));
        says(11);
        full(FULL, x -> x.turn(1));
        full(BAD, x -> x.turn(12));
        says(12);
        full(FULL, x -> x.join(1));
        full(BAD, x -> x.join(12));
        says(26);
        full(FULL, x -> x.body(1));
        full(BAD, x -> x.body(8));
        says(29);
        full(BAD, x -> x.keep(2, 50));
    }

    private static void refusedWithRoom() {
        says(2);
        room(BAD, x -> x.feed(0, 0));
        room(BAD, x -> x.feed(5, 0));
        room(BAD, x -> x.feed(-1, 0));
        says(4);
        room(BAD, x -> x.fromRow(6, 0, 1));
        room(BAD, x -> x.fromRow(2, 0, 8));
        room(-11, x -> x.fromRow(0, 0, 1));
        room(-12, x -> x.fromRow(1, 0, 1));
        room(-12, x -> x.fromRow(4, 0, 1));
        room(-13, x -> x.fromRow(2, 7, 1));
        room(-13, x -> x.fromRow(5, 0, 1));
        room(NOT, x -> x.fromRow(2, 0, 2));
        says(5);
        room(BAD, x -> x.plait(1));
        room(BAD, x -> x.plait(5));
        says(6);
        room(VOID, x -> x.of(3, 0));
        room(VOID, x -> x.of(0, 7));
        room(NOT, x -> x.of(0, 6));
        says(7);
        room(VOID, x -> x.led(0, 6, 0));
        says(8);
        room(VOID, x -> x.sum(0, 61));
        says(9);
        room(BAD, x -> x.alike(3));
        says(10);
        room(BAD, x -> x.mirror(3));
        says(11);
        room(BAD, x -> x.turn(3));
        says(12);
        room(BAD, x -> x.join(3));
        room(BIG, x -> x.join(1));
        room(BIG, x -> x.join(101));
        says(13);
        room(VOID, x -> x.change(0, 3));
        room(VOID, x -> x.change(2, 0));
        room(VOID, x -> x.change(3, 0));
        says(14);
        room(BAD, x -> x.pulls(0, 2));
        says(15);
        room(BAD, x -> x.moves(0, 2));
        room(NOT, x -> x.moves(2, 1));
        says(16);
        room(BAD, x -> x.simpler(0, 2));
        says(17);
        room(BAD, x -> x.simplify(3));
        room(BAD, x -> x.simplify(-1));
        says(18);
        room(BAD, x -> x.parted(0, 2));
        room(NOT, x -> x.parted(0, 0));
        says(19);
        room(BAD, x -> x.hidden(0, 8, 0));
        says(20);
        room(BAD, x -> x.lots(27, -1));
        room(BAD, x -> x.lots(21, 3));
        says(22);
        room(BAD, x -> x.shake(10000, 2, 0, 10));
        room(BAD, x -> x.shake(0, 5, 0, 10));
        says(23);
        room(BAD, x -> x.least(100, 2, 0, 1));
        room(NOT, x -> x.least(0, 2, 0, 20));
        says(24);
        silent(x -> Sentences.tapeOn(x, "n"), STATE, x -> x.undo());
        says(25);
        silent(x -> {
            part(x);
            x.redo();
        }, STATE, x -> x.redo());
        says(26);
        room(BAD, x -> x.body(8));
        room(BAD, x -> x.body(-1));
        says(28);
        room(BAD, x -> x.trace(7));
        room(BAD, x -> x.trace(-1));
        refusedOnShelves();
    }

    private static void refusedOnShelves() {
        says(29);
        for (int shelf = 0; shelf <= 5; shelf++) {
            int at = shelf;
            room(BAD, x -> x.keep(at, 8));
            room(BAD, x -> x.keep(at, -2));
        }
        room(BAD, x -> x.keep(6, 0));
        says(30);
        for (int shelf = 0; shelf <= 5; shelf++) {
            int at = shelf;
            room(BAD, x -> x.row(at, 5, 1));
            room(BAD, x -> x.row(at, 0, 61));
            room(-14, x -> x.row(at, 0, -1));
        }
        says(31);
        room(BAD, x -> x.put(6, 0, 99));
        room(-11, x -> x.put(0, 0, 99));
        room(-12, x -> x.put(1, 0, 99));
        room(-13, x -> x.put(2, 8, 99));
        room(-13, x -> x.put(2, -1, 99));
        room(-13, x -> x.put(5, 0, 99));
        says(32);
        for (int shelf = 0; shelf <= 1; shelf++) {
            int at = shelf;
            room(NONE, x -> x.element(at, 0));
        }
        room(NONE, x -> x.element(2, 8));
        says(33);
        room(BAD, x -> x.shift(2, 0, 6, 0, 1));
        room(-11, x -> x.shift(2, 0, 0, 0, 1));
        room(-12, x -> x.shift(2, 0, 3, 0, 1));
        room(-13, x -> x.shift(2, 1, 2, 0, 8));
        room(-13, x -> x.shift(2, 1, 2, 6, 3));
        room(-13, x -> x.shift(2, 0, 2, 1, -1));
        says(34);
        room(BAD, x -> x.taken(1, 8));
        room(-11, x -> x.taken(0, 0));
        room(-12, x -> x.taken(1, 6));
        room(-12, x -> x.taken(2, 0));
        says(35);
        room(BAD, x -> x.count(5));
        room(BAD, x -> x.count(-1));
    }

    private static void tapeEmptied() {
        Sentences.says(3, "THE TAPE is empty then.");
        emptied("x", -100, x -> x.picture());
        emptied("o1+", -103, x -> x.picture());
        emptied("1", -100, x -> x.picture());
        emptied(PictureEdges.UNDRAWABLE, NOT, x -> x.picture());
        Sentences.says(5, "THE TAPE is empty then.");
        emptied("b", -100, x -> x.plait(2));
        emptied("n", -100, x -> x.plait(4));
        emptied("aa", NOT, x -> x.plait(2));
        Sentences.says(21, "THE TAPE is empty then.");
        emptied("x", -100, x -> x.law());
        emptied("n+", -102, x -> x.law());
        emptied("1x", -101, x -> x.law());
    }

    /** These answer, and leave all as it was. */
    private static void inThought() {
        Sentences.says(14, "PULLS: the fewest CROSSINGS to be CHANGED, all in thought, so that it is PLAIN;");
        silent(RefusalEdges::partUnchanged, 1, x -> x.pulls(0, 0));
        silent(RefusalEdges::partUnchanged, 1, x -> x.pulls(1, 1));
        room(0, x -> x.pulls(1, 1));
        Sentences.says(16, "SIMPLER, in thought: how many MOVES (what 0), CROSSINGS that are left (1).");
        room(2, x -> x.simpler(0, 0));
        room(0, x -> x.simpler(0, 1));
        Sentences.says(19, "of all ways to take them (CHANGED or not)");
        room(3, x -> x.hidden(0, 6, 0));
        room(3, x -> x.hidden(0, 7, 1));
        Sentences.says(20, "LOTS: all words of L letters");
        room(8, x -> x.lots(23, -2));
        room(6, x -> x.lots(23, 2));
        Sentences.says(22, "SHAKES: n times (1 .. 50) by a SEED");
        room(0, x -> x.shake(9900, 2, 5, 501));
    }

    private static void theOneNamedFirst() {
        String first = "Answers, of several the one named first:";
        Sentences.says(2, first);
        full(BAD, x -> x.feed(5, 0));
        Sentences.says(4, first);
        full(BAD, x -> x.fromRow(0, 0, 8));
        full(FULL, x -> x.fromRow(0, 0, 1));
        full(FULL, x -> x.fromRow(1, 0, 1));
        full(FULL, x -> x.fromRow(2, 8, 1));
        room(BAD, x -> x.fromRow(0, -1, 8));
        room(-11, x -> x.fromRow(0, -1, 7));
        room(-12, x -> x.fromRow(1, -1, 7));
        room(-13, x -> x.fromRow(2, 0, 5));
        Sentences.says(5, first);
        full(BAD, x -> x.plait(5));
        Sentences.says(10, first);
        full(BAD, x -> x.mirror(12));
        Sentences.says(11, first);
        full(BAD, x -> x.turn(-1));
        Sentences.says(12, first);
        full(BAD, x -> x.join(1200));
        silent(x -> {
            Sentences.tapeOn(x, PictureEdges.EIGHT);
            x.picture();
            for (int i = 1; i < 12; i++) x.picture();
        }, FULL, x -> x.join(0));
        Sentences.says(15, first);
        room(BAD, x -> x.moves(3, 1));
        room(BAD, x -> x.moves(2, 2));
        Sentences.says(18, first);
        room(BAD, x -> x.parted(2, 2));
        Sentences.says(23, first);
        room(BAD, x -> x.least(0, 2, 0, 21));
        Sentences.says(26, first);
        full(BAD, x -> x.body(8));
        Sentences.says(30, first);
        room(BAD, x -> x.row(0, 5, -1));
        room(BAD, x -> x.row(6, 0, -1));
        Sentences.says(31, first);
        room(BAD, x -> x.put(6, -1, 0));
        room(-11, x -> x.put(0, -1, 0));
        room(-12, x -> x.put(1, -1, 0));
        Sentences.says(33, first);
        room(BAD, x -> x.shift(0, -1, 6, -1, -1));
        room(-11, x -> x.shift(0, -1, 1, -1, -1));
        room(-11, x -> x.shift(1, -1, 0, -1, -1));
        room(-12, x -> x.shift(2, -1, 3, -1, -1));
        Sentences.says(34, first);
        room(BAD, x -> x.taken(0, 8));
        room(BAD, x -> x.taken(2, -1));
        room(BAD, x -> x.taken(6, 8));
    }

    private RefusalEdges() { }
}
