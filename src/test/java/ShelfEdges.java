import java.util.ArrayList;
import java.util.List;

/** Promises 26 to 35: lies, acts, the trace, shelves and what lies on them, counts. */
final class ShelfEdges {
    private static final int MIN = Integer.MIN_VALUE, MAX = Integer.MAX_VALUE;
    private static final int BAD = -1, FULL = -3;
    private static final int NOTHING_THERE = -11, OTHER_KIND = -12, NO_PLACE = -13, BELOW_ZERO = -14;
    private static final long NONE = Long.MIN_VALUE;
    private static final int[] NO_SHELVES = {-1, 6, 7, MIN, MAX};
    private static final String SHELVES = "SHELVES 0 .. 5 each hold nothing (at first), a LIE, or a ROW: of 0 bytes, 1 shorts, 2 ints, 3 longs, 4 booleans, of 0 .. 60 elements, 0 at first (false);";

    private static CordPocket x() { return Sentences.x; }

    private static void says(int promise, String sentence) { Sentences.says(promise, sentence); }

    private static void due(long want, long got) { Sentences.due(want, got); }

    static void run() {
        body();
        act();
        bodiesOfActs();
        trace();
        keep();
        row();
        put();
        element();
        shift();
        shiftRefused();
        taken();
        refusals();
        count();
    }

    private static void allKinds() {
        for (int kind = 0; kind <= 7; kind++) x().body(kind);
    }

    private static void body() {
        says(26, "LIES are kept by call as BODIES 0 .. 49, of KINDS: 0 LIE; 1 PLAIN under LIE; 2 KNOTTED under LIE; 3 SEVERAL under KNOTTED; 4 TANGLED under PLAIN; 5 UNREADABLE under LIE; 6 EARED under LIE; 7 TIGHT under KNOTTED.");
        for (int body = 0; body <= 49; body++) {
            due(BAD, x().keep(0, body));
            due(body, x().body(body % 8));
            due(1, x().keep(0, body));
            due(body % 8, x().taken(0, 0));
        }
        due(FULL, x().body(0));
        due(BAD, x().keep(0, 50));
        due(50, x().count(3));

        says(26, "A LIE of a KIND (0 .. 7) is kept: its number. BAD, FULL.");
        for (int kind : new int[] {-1, 8, MIN, MAX}) due(BAD, x().body(kind));
        due(0, x().count(3));
        due(0, x().body(7));
        due(1, x().body(0));
        for (int body = 2; body <= 49; body++) due(body, x().body(7));
        for (int kind = 0; kind <= 7; kind++) due(FULL, x().body(kind));
        for (int kind : new int[] {-1, 8, MIN, MAX}) due(BAD, x().body(kind));
        due(50, x().count(3));
    }

    private static void act() {
        says(27, "An ACT (0 .. 3) of a LIE with x. 0, and no TRACE then: no such LIE, ACT.");
        due(0, x().act(0, 0, 5));
        due(0, x().count(4));
        allKinds();
        int[][] wrong = {{-1, 0}, {8, 0}, {49, 0}, {50, 0}, {MIN, 0}, {MAX, 0}, {0, -1}, {0, 4}, {0, MIN}, {0, MAX}, {8, 4}};
        for (int[] w : wrong) {
            due(20, x().act(0, 1, 10));
            due(2, x().count(4));
            due(0, x().act(w[0], w[1], 10));
            due(0, x().count(4));
            due(BAD, x().trace(0));
        }
        for (int i = 8; i <= 49; i++) x().body(0);
        due(54, x().act(49, 0, 5));
        due(0, x().act(50, 0, 5));
        // an answer of 0 by a LIE has its TRACE
        due(0, x().act(0, 0, 0));
        due(1, x().count(4));
        due(1, x().trace(0));

        says(27, "ACTS with x (an int that wraps): 0 lies, 1 crosses, 2 undoes, 3 tells; n its number.");
        allKinds();
        due(MIN + 3, x().act(1, 0, MAX));
        due(MIN, x().act(0, 0, MIN));
        due(MAX, x().act(0, 0, MAX));
        due(-2, x().act(0, 1, MAX));
        due(0, x().act(0, 1, MIN));
        due(MIN, x().act(0, 2, MIN));
        due(-1, x().act(0, 3, MIN));
        for (int kind = 0; kind <= 7; kind++) {
            for (int act = 0; act <= 3; act++) {
                for (int with : new int[] {MIN, MIN + 1, -1, 0, 1, MAX - 1, MAX}) due(host(kind, kind, act, with, new ArrayList<>()), x().act(kind, act, with));
            }
        }
    }

    /** What an act of a lie of the host's own classes answers. */
    private static int host(int kind, int number, int act, int with, List<Integer> trace) {
        LiesOfHost.Lie lie = LiesOfHost.make(kind, number, trace);
        return act == 0 ? lie.lies(with) : act == 1 ? lie.crosses(with) : act == 2 ? lie.undoes(with) : lie.tells(with);
    }

    private static void bodiesOfActs() {
        says(27, "lies(..) and so on: the body of its own KIND, or of the next KIND above that has one; super: from the KIND above the body's on.");
        allKinds();
        int[][][] ran = {
            {{1}, {10, 1}, {11}, {2, 10, 1, 11}},
            {{20, 1}, {10, 20, 1}, {11}, {2, 10, 20, 1, 11}},
            {{1}, {30, 10, 1}, {11}, {2, 30, 10, 1, 11}},
            {{1}, {41, 30, 10, 1}, {40, 11}, {2, 41, 30, 10, 1, 40, 11}},
            {{20, 1}, {10, 20, 1}, {11}, {50, 2, 10, 20, 1, 11}},
            {{1}, {10, 1}, {60, 11, 1}, {2, 10, 1, 60, 11, 1}},
            {{70, 1}, {10, 70, 1}, {11}, {2, 10, 70, 1, 11}},
            {{1}, {80, 30, 10, 1, 11}, {11}, {81, 2, 80, 30, 10, 1, 11, 11}}};
        for (int kind = 0; kind <= 7; kind++) {
            for (int act = 0; act <= 3; act++) {
                x().act(kind, act, 3);
                int[] want = ran[kind][act];
                for (int i = 0; i < want.length; i++) due(want[i], x().trace(i));
                due(BAD, x().trace(want.length));
            }
        }
        says(27, "BODIES of acts: LIES (an interface of LIE): 1 lies: x + n. LIE: 10 crosses: lies(x) * 2. 11 undoes: x ^ n. TELLS (of LIE): 2 tells: crosses(x) - undoes(1).");
        allKinds();
        x().body(0);
        due(5 + 8, x().act(8, 0, 5));
        due(2 * (5 + 8), x().act(8, 1, 5));
        due(5 ^ 8, x().act(8, 2, 5));
        due(2 * (5 + 8) - (1 ^ 8), x().act(8, 3, 5));
        says(27, "PLAIN: 20 lies: super.lies(x) + 3. KNOTTED: 30 crosses: -super.crosses(x). SEVERAL: 40 undoes: super.undoes(x) * 3. 41 crosses: super.crosses(x + 1). TANGLED: 50 tells: super.tells(x) ^ 5.");
        allKinds();
        due(5 + 1 + 3, x().act(1, 0, 5));
        due(-2 * (5 + 2), x().act(2, 1, 5));
        due((5 ^ 3) * 3, x().act(3, 2, 5));
        due(-2 * (5 + 1 + 3), x().act(3, 1, 5));
        due(2 * (5 + 4 + 3) - (1 ^ 4) ^ 5, x().act(4, 3, 5));
        says(27, "UNREADABLE: 60 undoes: super.undoes(x) - lies(2). EARED: 70 lies: super.lies(x) * 2. TIGHT: 80 crosses: super.crosses(x) + undoes(2). 81 tells: super.tells(x) - 1.");
        allKinds();
        due((5 ^ 5) - (2 + 5), x().act(5, 2, 5));
        due(2 * (5 + 6), x().act(6, 0, 5));
        due(-2 * (5 + 7) + (2 ^ 7), x().act(7, 1, 5));
        due(-2 * (5 + 7) + (2 ^ 7) - (1 ^ 7) - 1, x().act(7, 3, 5));
    }

    private static void trace() {
        says(28, "THE TRACE: numbers of the bodies that ran in the latest act(), as they began; the first 24 are kept.");
        // no act of any KIND runs more than 8: the longest
        allKinds();
        x().act(7, 3, 1);
        int[] longest = {81, 2, 80, 30, 10, 1, 11, 11};
        due(8, x().count(4));
        for (int i = 0; i < 8; i++) due(longest[i], x().trace(i));
        for (int i = 8; i <= 24; i++) due(BAD, x().trace(i));
        // a shorter one leaves nothing of it
        x().act(0, 2, 1);
        due(11, x().trace(0));
        for (int i = 1; i <= 8; i++) due(BAD, x().trace(i));

        says(28, "THE TRACE's i-th body. BAD.");
        for (int i : new int[] {-1, 0, 1, 24, MIN, MAX}) due(BAD, x().trace(i));
        allKinds();
        due(BAD, x().trace(0));
        x().act(2, 1, 1);
        int[] ran = {30, 10, 1};
        for (int i = 0; i < 3; i++) due(ran[i], x().trace(i));
        for (int i : new int[] {-1, 3, 4, 23, 24, 25, MIN, MAX}) due(BAD, x().trace(i));
        x().act(8, 0, 1);
        due(BAD, x().trace(0));
    }

    private static void keep() {
        says(29, "A SHELF holds nothing (body -1), or a LIE: 1. BAD.");
        for (int shelf = 0; shelf <= 5; shelf++) due(1, x().keep(shelf, -1));
        due(BAD, x().keep(0, 0));
        due(0, x().body(6));
        due(1, x().keep(0, 0));
        due(1, x().keep(5, 0));
        due(6, x().taken(0, 6));
        due(6, x().taken(5, 0));
        for (int body : new int[] {-2, 1, 49, 50, MIN, MAX}) due(BAD, x().keep(0, body));
        for (int shelf : NO_SHELVES) for (int body = -1; body <= 0; body++) due(BAD, x().keep(shelf, body));
        due(6, x().taken(0, 6));
        due(1, x().keep(0, -1));
        due(NOTHING_THERE, x().taken(0, 6));
        due(6, x().taken(5, 0));
        // a row that was there is gone
        due(1, x().row(0, 3, 1));
        due(1, x().put(0, 0, 9));
        due(1, x().keep(0, 0));
        due(OTHER_KIND, x().put(0, 0, 1));
        due(1, x().row(0, 3, 1));
        due(0, x().element(0, 0));
        due(1, x().keep(0, -1));
        due(NOTHING_THERE, x().put(0, 0, 1));
        for (int i = 1; i <= 49; i++) x().body(1);
        due(1, x().keep(0, 49));
        due(BAD, x().keep(0, 50));
        due(1, x().taken(0, 1));
    }

    private static void row() {
        says(30, SHELVES);
        for (int shelf = 0; shelf <= 5; shelf++) due(NOTHING_THERE, x().taken(shelf, 0));
        for (int sort = 0; sort <= 4; sort++) {
            due(1, x().row(sort + 1, sort, 60));
            for (int i : new int[] {0, 1, 30, 58, 59}) due(0, x().element(sort + 1, i));
            due(NO_PLACE, x().put(sort + 1, 60, 1));
            due(NONE, x().element(sort + 1, 60));
            for (int i : new int[] {0, 59}) due(1, x().put(sort + 1, i, 1));
        }
        for (int sort = 0; sort <= 4; sort++) {
            for (int i : new int[] {0, 59}) due(1, x().element(sort + 1, i));
            due(1, x().row(sort + 1, sort, 0));
            due(NO_PLACE, x().put(sort + 1, 0, 1));
            due(1, x().row(sort + 1, sort, 60));
            for (int i : new int[] {0, 1, 58, 59}) due(0, x().element(sort + 1, i));
        }
        due(NOTHING_THERE, x().put(0, 0, 1));

        says(30, "A SHELF holds a ROW: 1. BAD (sort, n above 60); -14.");
        due(1, x().row(0, 0, 3));
        for (int sort : new int[] {-1, 5, MIN, MAX}) for (int n : new int[] {-1, 0, 60, 61}) due(BAD, x().row(0, sort, n));
        for (int shelf : NO_SHELVES) for (int n : new int[] {-1, 0, 60, 61}) due(BAD, x().row(shelf, 0, n));
        for (int sort = 0; sort <= 4; sort++) {
            for (int n : new int[] {61, 62, MAX}) due(BAD, x().row(0, sort, n));
            for (int n : new int[] {-1, -2, -60, MIN}) due(BELOW_ZERO, x().row(0, sort, n));
        }
        due(BELOW_ZERO, x().row(1, 0, -1));
        due(NOTHING_THERE, x().put(1, 0, 1));
        Sentences.hasElements(0, 0, 0, 0);
    }

    private static void put() {
        says(31, "what is put in keeps its lowest bits (a boolean: whether it is not 0; 1 or 0).");
        long[][] bytes = {{127, 127}, {128, -128}, {-128, -128}, {-129, 127}, {255, -1}, {256, 0}, {Long.MAX_VALUE, -1}, {NONE, 0}};
        long[][] shorts = {{32767, 32767}, {32768, -32768}, {-32768, -32768}, {-32769, 32767}, {65535, -1}, {65536, 0}, {NONE, 0}};
        long[][] ints = {{MAX, MAX}, {1L << 31, MIN}, {MIN, MIN}, {MIN - 1L, MAX}, {(1L << 32) - 1, -1}, {1L << 32, 0}, {NONE, 0}};
        long[][] longs = {{Long.MAX_VALUE, Long.MAX_VALUE}, {NONE + 1, NONE + 1}, {NONE, NONE}, {-1, -1}, {1L << 32, 1L << 32}};
        long[][] booleans = {{0, 0}, {1, 1}, {2, 1}, {-1, 1}, {256, 1}, {1L << 32, 1}, {NONE, 1}, {Long.MAX_VALUE, 1}};
        long[][][] sorts = {bytes, shorts, ints, longs, booleans};
        for (int sort = 0; sort <= 4; sort++) {
            due(1, x().row(sort, sort, 3));
            for (long[] pair : sorts[sort]) {
                due(1, x().put(sort, 1, pair[0]));
                due(pair[1], x().element(sort, 1));
                due(0, x().element(sort, 0));
                due(0, x().element(sort, 2));
            }
        }

        says(31, "Element i of a ROW becomes v: 1. BAD, -11, -12, -13.");
        due(NOTHING_THERE, x().put(0, 0, 1));
        due(NOTHING_THERE, x().put(0, -1, 1));
        x().body(0);
        x().keep(0, 0);
        for (int i : new int[] {-1, 0, 60}) due(OTHER_KIND, x().put(0, i, 1));
        x().row(0, 3, 2);
        for (int i : new int[] {-1, 2, 3, 59, 60, MIN, MAX}) due(NO_PLACE, x().put(0, i, 1));
        for (int shelf : NO_SHELVES) for (int i = -1; i <= 1; i++) due(BAD, x().put(shelf, i, 1));
        Sentences.hasElements(0, 0, 0);
        due(1, x().put(0, 0, 8));
        due(1, x().put(0, 1, 9));
        Sentences.hasElements(0, 8, 9);
        x().row(5, 0, 0);
        due(NO_PLACE, x().put(5, 0, 1));
    }

    private static void element() {
        says(32, "Element i of a ROW; Long.MIN_VALUE: BAD, -11 to -13.");
        for (int shelf : NO_SHELVES) due(NONE, x().element(shelf, 0));
        for (int shelf = 0; shelf <= 5; shelf++) due(NONE, x().element(shelf, 0));
        x().body(0);
        x().keep(0, 0);
        due(NONE, x().element(0, 0));
        x().row(5, 3, 60);
        due(0, x().element(5, 0));
        due(0, x().element(5, 59));
        for (int i : new int[] {-1, 60, 61, MIN, MAX}) due(NONE, x().element(5, i));
        x().put(5, 59, NONE + 1);
        due(NONE + 1, x().element(5, 59));
        x().row(5, 3, 2);
        due(0, x().element(5, 1));
        due(NONE, x().element(5, 2));
        x().row(5, 3, 0);
        due(NONE, x().element(5, 0));
        x().keep(5, -1);
        due(NONE, x().element(5, 0));
    }

    private static void shift() {
        says(33, "n elements of a ROW from i on come to another one (or the same) from j on, as they all were before: n.");
        for (int sort = 0; sort <= 4; sort++) {
            Sentences.rowOf(0, sort, 1, 0, 1, 1, 0);
            Sentences.rowOf(1, sort, 0, 0, 0);
            due(3, x().shift(0, 2, 1, 0, 3));
            Sentences.hasElements(1, 1, 1, 0);
            due(1, x().shift(0, 0, 1, 2, 1));
            Sentences.hasElements(1, 1, 1, 1);
            Sentences.hasElements(0, 1, 0, 1, 1, 0);
        }
        Sentences.anew();
        Sentences.rowOf(0, 3, 1, 2, 3, 4, 5);
        due(4, x().shift(0, 0, 0, 1, 4));
        Sentences.hasElements(0, 1, 1, 2, 3, 4);
        due(4, x().shift(0, 1, 0, 0, 4));
        Sentences.hasElements(0, 1, 2, 3, 4, 4);
        due(5, x().shift(0, 0, 0, 0, 5));
        Sentences.hasElements(0, 1, 2, 3, 4, 4);
        due(0, x().shift(0, 0, 0, 4, 0));
        due(0, x().shift(0, 5, 0, 5, 0));
        Sentences.hasElements(0, 1, 2, 3, 4, 4);
        Sentences.anew();
        due(1, x().row(0, 3, 60));
        due(1, x().row(5, 3, 60));
        due(1, x().put(0, 0, 7));
        due(1, x().put(0, 59, NONE + 1));
        due(60, x().shift(0, 0, 5, 0, 60));
        due(7, x().element(5, 0));
        due(NONE + 1, x().element(5, 59));
        due(1, x().shift(0, 59, 5, 0, 1));
        due(NONE + 1, x().element(5, 0));
        due(0, x().shift(0, 60, 5, 60, 0));
    }

    private static void shiftRefused() {
        says(33, "BAD, -11 (either), -12 (no ROWS, or of unlike sorts), -13.");
        Sentences.rowOf(0, 2, 1, 2, 3);
        Sentences.rowOf(1, 2, 4, 5);
        Sentences.rowOf(2, 3, 6);
        x().body(0);
        x().keep(3, 0);
        for (int shelf : NO_SHELVES) {
            due(BAD, x().shift(shelf, 0, 0, 0, 0));
            due(BAD, x().shift(0, 0, shelf, 0, 0));
            due(BAD, x().shift(4, 0, shelf, 0, 0));
            due(BAD, x().shift(3, 0, shelf, -1, -1));
        }
        int[][] nothing = {{4, 0}, {0, 4}, {4, 4}, {4, 5}, {3, 4}, {4, 3}};
        for (int[] w : nothing) due(NOTHING_THERE, x().shift(w[0], -1, w[1], 9, -1));
        int[][] unlike = {{3, 0}, {0, 3}, {3, 3}, {0, 2}, {2, 0}, {2, 3}};
        for (int[] w : unlike) due(OTHER_KIND, x().shift(w[0], -1, w[1], 9, -1));
        int[][] noPlace = {{-1, 0, 1}, {-1, 0, 0}, {0, -1, 0}, {0, -1, 1}, {3, 0, 1}, {4, 0, 0}, {0, 3, 0}, {0, 2, 1}, {0, 0, 3},
            {1, 0, 3}, {2, 0, 2}, {0, 1, 2}, {MAX, 0, 1}, {0, MAX, 1}, {0, 0, MAX}, {1, 1, MAX}, {MAX, MAX, MAX}, {MIN, 0, 1}, {0, MIN, 1}};
        for (int[] w : noPlace) due(NO_PLACE, x().shift(0, w[0], 1, w[1], w[2]));
        Sentences.hasElements(0, 1, 2, 3);
        Sentences.hasElements(1, 4, 5);
        Sentences.hasElements(2, 6);
        due(0, x().shift(0, 3, 1, 2, 0));
        due(2, x().shift(0, 1, 1, 0, 2));
        Sentences.hasElements(1, 2, 3);
    }

    private static void taken() {
        says(34, "What a SHELF holds, taken for a LIE of KIND k (0 .. 7), or under it: its KIND. BAD, -11, -12.");
        allKinds();
        String[] under = {"0", "01", "02", "023", "014", "05", "06", "027"};
        for (int kind = 0; kind <= 7; kind++) {
            x().keep(5, kind);
            for (int k = 0; k <= 7; k++) due(under[kind].indexOf('0' + k) >= 0 ? kind : OTHER_KIND, x().taken(5, k));
        }
        for (int k : new int[] {-1, 8, MIN, MAX}) due(BAD, x().taken(5, k));
        for (int k : new int[] {-1, 8}) due(BAD, x().taken(0, k));
        for (int shelf : NO_SHELVES) due(BAD, x().taken(shelf, 0));
        for (int k = 0; k <= 7; k++) due(NOTHING_THERE, x().taken(0, k));
        for (int sort = 0; sort <= 4; sort++) {
            x().row(1, sort, sort);
            for (int k = 0; k <= 7; k++) due(OTHER_KIND, x().taken(1, k));
        }
    }

    private static void refusals() {
        says(31, "The host's REFUSALS: -11 nothing is there where something is wanted; -12 it is of another kind; -13 a place that is not there; -14 a size below 0.");
        x().body(0);
        due(-11, x().put(0, 0, 0));
        due(-11, x().taken(0, 0));
        due(-11, x().fromRow(0, 0, 0));
        due(-11, x().shift(0, 0, 0, 0, 0));
        x().keep(0, 0);
        due(-12, x().put(0, 0, 0));
        due(-12, x().taken(0, 1));
        due(-12, x().fromRow(0, 0, 0));
        due(-12, x().shift(0, 0, 0, 0, 0));
        due(-14, x().row(0, 0, -1));
        due(0, x().taken(0, 0));
        x().row(0, 0, 1);
        due(-13, x().put(0, 1, 0));
        due(-13, x().fromRow(0, 0, 1));
        due(-13, x().shift(0, 0, 0, 0, 2));
        due(-12, x().taken(0, 0));
    }

    private static void count() {
        says(35, "How many: 0 PICTURES, 1 bytes on THE TAPE, 2 changes that may be UNDONE, 3 LIES that are kept, 4 bodies that ran in the latest act() (all, kept or not). BAD.");
        for (int what = 0; what <= 4; what++) due(0, x().count(what));
        for (int what : new int[] {-1, 5, 6, MIN, MAX}) due(BAD, x().count(what));
        Sentences.picture("o1+u1");
        for (int i = 0; i < 41; i++) x().change(0, 0);
        Sentences.fillPictures();
        x().picture();
        for (int i = 0; i < 31; i++) x().feed(4, 0);
        for (int i = 0; i < 51; i++) x().body(7);
        x().act(0, 3, 0);
        int[] most = {12, 120, 40, 50, 8};
        for (int what = 0; what <= 4; what++) due(most[what], x().count(what));
        x().undo();
        due(39, x().count(2));
        x().redo();
        due(40, x().count(2));
        x().act(50, 0, 0);
        due(0, x().count(4));
        x().law();
        due(0, x().count(1));
        x().simplify(0);
        due(0, x().count(2));
        for (int what : new int[] {-1, 5, MIN, MAX}) due(BAD, x().count(what));
    }

    private ShelfEdges() { }
}
