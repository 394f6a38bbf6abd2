/** Each promise by hand: ordinary calls, the edges that the document names, wrong calls. */
public final class PromiseTest {
    private static final String TREFOIL = "o1+u2+o3+u1o2u3";
    private static final String EIGHT = "o1+u2-o3-u1o4+u3o2u4";
    private static final String COMES_OUT = "o1+o2-u2u1";
    private static final String EAR = "o1+u1";
    private static final String UNDRAWABLE = "o1+o2+u1u2";

    private static int passed, failed, promise;
    private static CordPocket x;

    public static void main(String[] args) {
        aNewObject();
        feed();
        picture();
        fromRow();
        plait();
        of();
        led();
        sum();
        alike();
        mirror();
        turn();
        join();
        change();
        pulls();
        moves();
        simpler();
        simplify();
        parted();
        hidden();
        lots();
        law();
        lawsWorkedOut();
        shake();
        least();
        undo();
        redo();
        body();
        act();
        trace();
        keep();
        row();
        put();
        element();
        shift();
        taken();
        count();
        System.out.println("PromiseTest: " + passed + " passed, " + failed + " failed");
        if (failed != 0) System.exit(1);
    }

    private static void begin(int number) {
        promise = number;
        x = new CordPocket();
    }

    private static void due(long want, long got) {
        if (got == want) {
            passed++;
            return;
        }
        failed++;
        int line = new Throwable().getStackTrace()[1].getLineNumber();
        System.out.println("promise " + promise + ", line " + line + ": answered " + got + ", due is " + want);
    }

    private static void tape(String text) {
        for (char c : text.toCharArray()) x.feed(1, c);
    }

    private static int picture(String text) {
        tape(text);
        return x.picture();
    }

    private static int plait(String word, int m) {
        tape(word);
        return x.plait(m);
    }

    private static int law(String text) {
        tape(text);
        return x.law();
    }

    private static void fillPictures() {
        while (x.count(0) < 12) x.picture();
    }

    private static void aNewObject() {
        begin(1);
        for (int what = 0; what <= 4; what++) due(0, x.count(what));
        due(-2000000000, x.of(0, 0));
        due(-5, x.undo());
        due(-5, x.redo());
        due(-1, x.trace(0));
        for (int shelf = 0; shelf < 6; shelf++) due(-11, x.taken(shelf, 0));
        due(1, x.shake(9999, 92, 1, 11));
        due(0, x.shake(9999, 92, 1, 10));
    }

    private static void feed() {
        begin(2);
        due(-1, x.feed(0, 0));
        due(-1, x.feed(5, 0));
        due(-1, x.feed(Integer.MIN_VALUE, 0));
        due(1, x.feed(1, 0x7777776f));
        due(4, x.feed(3, 0x752b31));
        due(5, x.feed(1, '1'));
        due(0, x.picture());
        due(1, x.led(0, 0, 0));
        due(0, x.led(0, 1, 0));
        for (int i = 1; i <= 29; i++) due(4 * i, x.feed(4, 0));
        due(118, x.feed(2, 0));
        due(-3, x.feed(3, 0));
        due(118, x.count(1));
        due(-1, x.feed(5, 0));
        due(120, x.feed(2, 0));
        due(-3, x.feed(1, 0));
        due(-100, x.picture());
        due(0, x.count(1));
        due(1, x.feed(1, 0xff));
        due(-100, x.law());
    }

    private static void picture() {
        begin(3);
        due(0, picture(""));
        due(1, picture(TREFOIL));
        due(0, x.count(1));
        due(-2, picture(UNDRAWABLE));
        due(0, x.count(1));
        due(-2, picture("o1-o2-u1u2"));
        due(2, picture(COMES_OUT));
        due(3, picture("u1-o1"));
        due(-100, picture("p"));
        due(0, x.count(1));
        due(-100, picture("1"));
        due(-101, picture("o"));
        due(-101, picture("oo"));
        due(-101, picture("o0"));
        due(-101, picture("o2+"));
        due(-102, picture("o1"));
        due(-102, picture("o1u"));
        due(-103, picture("o1+"));
        due(-104, picture("o1+u"));
        due(-104, picture("o1+o1"));
        due(-104, picture("o1+u3"));
        due(-105, picture("o1+u1+"));
        due(-106, picture("o1+u1u1"));
        due(-106, picture("o1+u1o1"));
        due(-106, picture("o1+u2+"));
        due(-104, picture("o1+u8"));
        String seven = "o1+o2+o3+o4+o5+o6+o7+";
        due(-121, picture(seven + "o"));
        due(-121, picture(seven + "o1"));
        due(-122, picture(seven + "u8"));
        due(-135, picture("o1+u1o2+u2o3+u3o4+u4o5+u5o6+u6o7+u7u"));
        due(4, picture("o1+u1o2+u2o3+u3o4+u4o5+u5o6+u6o7+u7"));
        fillPictures();
        tape("o1+u1");
        due(-3, x.picture());
        due(5, x.count(1));
        due(12, x.count(0));
    }

    private static void putRow(int shelf, int from, int... visits) {
        for (int k = 0; k < visits.length; k++) x.put(shelf, from + k, visits[k]);
    }

    private static void fromRow() {
        begin(4);
        due(-1, x.fromRow(6, 0, 0));
        due(-1, x.fromRow(-1, 0, 0));
        due(-1, x.fromRow(0, 0, -1));
        due(-1, x.fromRow(0, 0, 8));
        due(-11, x.fromRow(0, 0, 0));
        x.body(0);
        x.keep(0, 0);
        due(-12, x.fromRow(0, 0, 0));
        for (int sort = 1; sort <= 4; sort++) {
            x.row(0, sort, 60);
            due(-12, x.fromRow(0, 0, 0));
        }
        x.row(0, 0, 10);
        due(0, x.fromRow(0, 10, 0));
        due(-13, x.fromRow(0, 11, 0));
        due(-13, x.fromRow(0, -1, 0));
        due(-13, x.fromRow(0, 9, 1));
        due(-13, x.fromRow(0, Integer.MAX_VALUE, 7));
        putRow(0, 3, 11, 20, 31, 10, 21, 30);
        due(-13, x.fromRow(0, 5, 3));
        due(1, x.fromRow(0, 3, 3));
        due(3, x.of(1, 1));
        due(-16, x.of(1, 3));
        due(11, x.led(1, 4, 0));
        putRow(0, 3, -11, -20, -31, -10, -21, -30);
        due(2, x.fromRow(0, 3, 3));
        due(-3, x.of(2, 1));
        putRow(0, 3, -11, -20, -31, -10, 21, -30);
        due(-2, x.fromRow(0, 3, 3));
        int[][] wrong = {{0, 0}, {11, 11}, {11, 12}, {10, 10}, {20, 21}, {11, 0}, {9, 10}, {-128, 127}, {1, 0}, {11, 20}};
        for (int[] visits : wrong) {
            putRow(0, 0, visits);
            due(-2, x.fromRow(0, 0, 1));
        }
        putRow(0, 0, 11, 21, 10, 20);
        due(-2, x.fromRow(0, 0, 2));
        due(-2, x.fromRow(0, 0, 1));
        putRow(0, 0, 11, -21, -20, 10);
        due(3, x.fromRow(0, 0, 2));
        fillPictures();
        due(-3, x.fromRow(0, 0, 2));
        due(-3, x.fromRow(5, 0, 2));
        due(-1, x.fromRow(6, 0, 2));
    }

    private static void plait() {
        begin(5);
        due(-1, x.plait(1));
        due(-1, x.plait(5));
        tape("a");
        due(-1, x.plait(0));
        due(1, x.count(1));
        due(0, x.plait(2));
        due(1, x.of(0, 0));
        due(1, x.led(0, 0, 0));
        due(0, x.led(0, 1, 0));
        due(1, x.of(0, 1));
        due(1, plait("A", 2));
        due(0, x.led(1, 0, 0));
        due(-1, x.of(1, 1));
        for (int m = 2; m <= 4; m++) due(-2, plait("", m));
        due(-2, plait("aa", 2));
        due(0, x.count(1));
        due(-2, plait("a", 3));
        due(2, plait("ab", 3));
        due(3, plait("abc", 4));
        due(-101, plait("ab", 2));
        due(0, x.count(1));
        due(-102, plait("abc", 3));
        due(-103, plait("abcd", 4));
        due(-100, plait("C", 3));
        due(-100, plait("`", 3));
        due(-100, plait("@", 3));
        due(-100, plait("1", 4));
        due(4, plait("aaaaaaa", 2));
        due(-107, plait("aaaaaaaa", 2));
        due(-107, plait("aaaaaaa!", 2));
        // strand 0 goes along the first letter that touches it, and comes round
        due(5, plait("bA", 3));
        due(0, x.led(5, 0, 0));
        due(-1, x.led(5, 0, 1));
        due(11, x.led(5, 1, 0));
        due(10, x.led(5, 2, 0));
        due(1, x.led(5, 3, 0));
        fillPictures();
        tape("a");
        due(-3, x.plait(2));
        due(1, x.count(1));
        due(-1, x.plait(5));
    }

    private static void of() {
        begin(6);
        picture("");
        picture(TREFOIL);
        picture(EIGHT);
        picture(EAR);
        plait("AAA", 2);
        int[][] want = {{0, 0, 2, 0, 0, 1, -2}, {3, 3, 5, -16, -4, 0, -2}, {4, 0, 6, -8, 8, 0, -2}, {1, 1, 3, 0, 0, 1, 0},
            {3, -3, 5, 4, 16, 0, -2}};
        for (int p = 0; p < 5; p++) for (int what = 0; what <= 6; what++) due(want[p][what], x.of(p, what));
        due(-2000000000, x.of(5, 0));
        due(-2000000000, x.of(-1, 0));
        due(-2000000000, x.of(0, -1));
        due(-2000000000, x.of(0, 7));
        x.mirror(4);
        due(1, x.of(5, 6));
        due(6, picture("o1+u1o2-u2o3+u3u4+o4o5-u5u6-o6o7+u7"));
        due(7, picture("o1+u1o2+u2o3+u3o4+u4o5+u5o6+u6o7+u7"));
        for (int p = 6; p <= 7; p++) {
            due(9, x.of(p, 2));
            due(0, x.of(p, 3));
            due(0, x.of(p, 4));
            due(1, x.of(p, 5));
            due(0, x.of(p, 6));
        }
    }

    private static void led() {
        begin(7);
        picture(EIGHT);
        int[][] want = {{1, 1, 3}, {10, -1, 6}, {21, -1, 5}, {0, 1, 0}, {31, 1, 7}, {20, -1, 2}, {11, -1, 1}, {30, 1, 4}};
        for (int k = 0; k < 8; k++) for (int what = 0; what < 3; what++) due(want[k][what], x.led(0, k, what));
        due(-2000000000, x.led(0, 8, 0));
        due(-2000000000, x.led(0, -1, 0));
        due(-2000000000, x.led(0, 0, 3));
        due(-2000000000, x.led(0, 0, -1));
        due(-2000000000, x.led(1, 0, 0));
        x.picture();
        due(-2000000000, x.led(1, 0, 0));
    }

    private static void sum() {
        begin(8);
        picture("");
        picture(TREFOIL);
        picture(EIGHT);
        x.mirror(1);
        plait("aaaaaaa", 2);
        for (int e = -60; e <= 60; e++) {
            due(e == 0 ? 1 : 0, x.sum(0, e));
            due(e == -16 ? -1 : e == -12 || e == -4 ? 1 : 0, x.sum(1, e));
            due(Math.abs(e) == 4 ? -1 : Math.abs(e) == 8 || e == 0 ? 1 : 0, x.sum(2, e));
            if (e % 4 == 0) due(x.sum(1, -e), x.sum(3, e));
        }
        // of seven turns: t^3 (1 + t^2 - t^3 + t^4 - t^5 + t^6 - t^7), t being x^-4
        int[] seven = {1, 0, 1, -1, 1, -1, 1, -1};
        for (int i = 0; i < 8; i++) due(seven[i], x.sum(4, -12 - 4 * i));
        begin(8);
        plait("AAAAAAA", 2);
        due(-1, x.sum(0, 40));
        due(1, x.sum(0, 12));
        due(-2000000000, x.sum(0, 61));
        due(-2000000000, x.sum(0, -61));
        due(-2000000000, x.sum(0, Integer.MIN_VALUE));
        due(-2000000000, x.sum(1, 0));
        due(-2000000000, x.sum(-1, 0));
    }

    private static void alike() {
        begin(9);
        picture("");
        picture(EAR);
        picture(TREFOIL);
        plait("aaa", 2);
        plait("abab", 3);
        x.mirror(2);
        due(1, x.alike(0));
        due(1, x.alike(1));
        due(1, x.alike(100));
        due(1, x.alike(203));
        due(1, x.alike(302));
        due(1, x.alike(304));
        due(0, x.alike(305));
        due(0, x.alike(2));
        due(-1, x.alike(6));
        due(-1, x.alike(600));
        due(-1, x.alike(-1));
        due(-1, x.alike(-200));
        due(-1, x.alike(Integer.MIN_VALUE));
        begin(9);
        for (int p = 0; p < 11; p++) x.picture();
        picture(TREFOIL);
        due(1, x.alike(1000));
        due(0, x.alike(1011));
        due(0, x.alike(1110));
        due(1, x.alike(1111));
        due(-1, x.alike(1112));
        due(-1, x.alike(1200));
    }

    private static void mirror() {
        begin(10);
        due(-1, x.mirror(0));
        picture(EIGHT);
        picture(TREFOIL);
        due(2, x.mirror(0));
        for (int k = 0; k < 8; k++) {
            due(x.led(0, k, 0) ^ 1, x.led(2, k, 0));
            due(-x.led(0, k, 1), x.led(2, k, 1));
        }
        due(3, x.mirror(1));
        due(-3, x.of(3, 1));
        due(4, x.of(3, 3));
        due(3, x.of(1, 1));
        due(-1, x.mirror(-1));
        due(-1, x.mirror(4));
        fillPictures();
        due(-3, x.mirror(0));
        due(-1, x.mirror(12));
    }

    private static void turn() {
        begin(11);
        due(-1, x.turn(0));
        picture(EIGHT + "o5+u5");
        due(1, x.turn(0));
        // back: 5 under, 5 over, 4 under, 2 over, 3 under and so on; numbered anew as they are met
        int[] visits = {0, 1, 10, 21, 30, 11, 40, 31, 20, 41};
        int[] signs = {1, 1, 1, -1, -1, 1, 1, -1, -1, 1};
        for (int k = 0; k < 10; k++) due(visits[k], x.led(1, k, 0));
        for (int k = 0; k < 10; k++) due(signs[k], x.led(1, k, 1));
        due(-1, x.turn(2));
        due(-1, x.turn(-1));
        fillPictures();
        due(-3, x.turn(0));
        due(-1, x.turn(12));
    }

    private static void join() {
        begin(12);
        due(-1, x.join(0));
        picture(TREFOIL);
        picture(EIGHT);
        picture("");
        due(3, x.join(1));
        due(7, x.of(3, 0));
        for (int k = 0; k < 6; k++) due(x.led(0, k, 0), x.led(3, k, 0));
        for (int k = 0; k < 8; k++) due(x.led(1, k, 0) + 30, x.led(3, 6 + k, 0));
        for (int k = 0; k < 8; k++) due(x.led(1, k, 1), x.led(3, 6 + k, 1));
        due(9, x.of(3, 2));
        due(4, x.join(100));
        due(1, x.led(4, 0, 1));
        due(-4, x.join(101));
        due(5, x.join(202));
        due(0, x.of(5, 0));
        due(6, x.join(0));
        due(6, x.of(6, 0));
        due(-1, x.join(-1));
        due(-1, x.join(7));
        due(-1, x.join(700));
        due(-1, x.join(20000));
        fillPictures();
        due(-3, x.join(101));
        due(-1, x.join(12));
    }

    private static void change() {
        begin(13);
        due(-2000000000, x.change(0, 0));
        picture(TREFOIL);
        due(1, x.change(0, 1));
        due(11, x.led(0, 1, 0));
        due(10, x.led(0, 4, 0));
        due(-1, x.led(0, 1, 1));
        due(1, x.led(0, 0, 0));
        due(1, x.of(0, 5));
        due(5, x.of(0, 2));
        due(-1, x.change(0, 0));
        due(-3, x.change(0, 2));
        due(4, x.of(0, 3));
        due(-2000000000, x.change(0, 3));
        due(-2000000000, x.change(0, -1));
        due(-2000000000, x.change(1, 0));
        due(-2000000000, x.change(-1, 0));
        due(3, x.count(2));
    }

    private static void pulls() {
        begin(14);
        picture("");
        picture(TREFOIL);
        plait("aaaaa", 2);
        plait("aaaaaaa", 2);
        x.join(101);
        plait("Aaaaa", 2);
        int[] many = {0, 1, 2, 3, 2, 1};
        int[] bits = {0, 1, 3, 7, 9, 2};
        for (int p = 0; p < 6; p++) {
            due(many[p], x.pulls(p, 0));
            due(bits[p], x.pulls(p, 1));
        }
        due(3, x.of(1, 1));
        due(0, x.count(2));
        due(-1, x.pulls(0, 2));
        due(-1, x.pulls(0, -1));
        due(-1, x.pulls(6, 0));
        due(-1, x.pulls(-1, 0));
    }

    private static void moves() {
        begin(15);
        picture("");
        picture(TREFOIL);
        picture(EAR);
        picture(COMES_OUT);
        due(4, picture("o1+u2+o3+u1o2u3o4-u4"));
        int[] sorts = {0, 0, 1, 1, 1};
        int[] told = {-2, -2, 0, 0, 3};
        for (int p = 0; p < 5; p++) due(sorts[p], x.moves(p, 0));
        for (int p = 0; p < 5; p++) due(told[p], x.moves(p, 1));
        due(5, plait("aAaaa", 2));
        due(2, x.moves(5, 0));
        due(1, x.moves(5, 1));
        due(6, plait("aaAaa", 2));
        due(12, x.moves(6, 1));
        due(7, plait("Aaaaa", 2));
        due(1, x.moves(7, 1));
        due(8, plait("aaaaA", 2));
        due(4, x.moves(8, 1));
        // crossings 1 and 2 have unlike signs and follow one another over, but not under
        due(9, picture("o1+o2+o3-u4-o5-u1o6+u3o4u5u2u6"));
        due(0, x.moves(9, 0));
        due(-1, x.moves(10, 0));
        due(-1, x.moves(-1, 0));
        due(-1, x.moves(0, 2));
        due(-1, x.moves(0, -1));
    }

    private static void simpler() {
        begin(16);
        picture("");
        picture(TREFOIL);
        picture(EAR);
        picture(COMES_OUT);
        plait("aaAaa", 2);
        plait("aAaAa", 2);
        picture("o1+u1o2+u2o3+u3o4+u4o5+u5o6+u6o7+u7");
        int[] moves = {0, 0, 1, 2, 1, 3, 7};
        int[] left = {0, 3, 0, 0, 3, 0, 0};
        for (int p = 0; p < 7; p++) due(moves[p], x.simpler(p, 0));
        for (int p = 0; p < 7; p++) due(left[p], x.simpler(p, 1));
        due(5, x.of(4, 0));
        x.change(1, 0);
        due(2, x.simpler(1, 0));
        due(1, x.count(2));
        due(-1, x.simpler(7, 0));
        due(-1, x.simpler(-1, 0));
        due(-1, x.simpler(0, 2));
        due(-1, x.simpler(0, -1));
    }

    private static void simplify() {
        begin(17);
        plait("Aaaaa", 2);
        plait("aAa", 2);
        picture(TREFOIL);
        due(5, x.of(0, 0));
        due(3, x.simplify(0));
        due(3, x.of(0, 0));
        due(3, x.of(0, 1));
        int[] visits = {1, 10, 21, 0, 11, 20};
        for (int k = 0; k < 6; k++) due(visits[k], x.led(0, k, 0));
        due(-2000000000, x.led(0, 6, 0));
        due(1, x.alike(2));
        due(0, x.simplify(1));
        due(2, x.of(1, 2));
        x.change(0, 0);
        x.change(2, 1);
        x.undo();
        due(-1, x.simplify(3));
        due(-1, x.simplify(-1));
        due(3, picture("o1+u2+o3+u1o2u3o4-u4"));
        due(1, x.count(2));
        due(0, x.simplify(1));
        due(0, x.count(2));
        due(3, x.simplify(3));
        for (int k = 0; k < 6; k++) due(visits[k], x.led(3, k, 0));
        due(-5, x.undo());
        due(-5, x.redo());
        due(1, x.of(0, 1));
    }

    private static void parted() {
        begin(18);
        picture("");
        picture(EAR);
        picture(TREFOIL);
        due(3, picture("o1+u2+o3+u1o2u3o4+u4"));
        x.join(202);
        due(5, picture("u1+o2+u2o1"));
        due(6, picture("o1+u2+o3+o4+u4u1o2u3"));
        int[] many = {-2, -2, -2, 2, 6, 2, 2};
        int[] first = {-2, -2, -2, 6, 0, 1, 3};
        for (int p = 0; p < 7; p++) due(many[p], x.parted(p, 0));
        for (int p = 0; p < 7; p++) due(first[p], x.parted(p, 1));
        // the least part may go on over the last visit
        due(7, picture("u1+u2+o3+u4+o2u3o4o1"));
        due(2, x.parted(7, 0));
        due(7, x.parted(7, 1));
        due(-1, x.parted(8, 0));
        due(-1, x.parted(-1, 0));
        due(-1, x.parted(0, 2));
        due(-1, x.parted(0, -1));
    }

    private static void hidden() {
        begin(19);
        picture("");
        picture(TREFOIL);
        picture(EIGHT);
        due(1, x.hidden(0, 0, 0));
        due(1, x.hidden(0, 0, 1));
        due(-1, x.hidden(0, 1, 0));
        due(0, x.hidden(1, 0, 0));
        due(1, x.hidden(1, 0, 1));
        due(1, x.hidden(1, 4, 0));
        due(2, x.hidden(1, 4, 1));
        due(6, x.hidden(1, 7, 0));
        due(3, x.hidden(1, 7, 1));
        due(3, x.of(1, 1));
        due(-1, x.hidden(1, 8, 0));
        due(-1, x.hidden(1, -1, 0));
        due(-1, x.hidden(1, 0, 2));
        due(-1, x.hidden(1, 0, -1));
        due(-1, x.hidden(3, 0, 0));
        due(-1, x.hidden(-1, 0, 0));
        due(1, x.change(1, 0));
        due(3, x.hidden(1, 6, 0));
        due(2, x.hidden(1, 1, 1));
    }

    private static void lots() {
        begin(20);
        picture("");
        picture(TREFOIL);
        due(2, x.lots(21, -2));
        due(2, x.lots(21, -1));
        due(2, x.lots(21, 0));
        due(0, x.lots(21, 1));
        due(0, x.lots(22, -2));
        due(8, x.lots(23, -2));
        due(6, x.lots(23, -1));
        due(1, x.lots(23, 1));
        due(32, x.lots(25, -2));
        due(20, x.lots(25, -1));
        due(5, x.lots(25, 1));
        due(0, x.lots(26, -2));
        due(8, x.lots(32, -2));
        due(0, x.lots(31, -2));
        due(0, x.lots(33, -2));
        due(48, x.lots(43, -2));
        due(0, x.lots(44, -2));
        due(2560, x.lots(45, -2));
        due(2688, x.lots(36, -2));
        due(1, x.change(1, 0));
        due(6, x.lots(23, 1));
        int[] wrong = {20, 27, 30, 37, 40, 46, 10, 11, 51, 0, -1, -23, 1000, Integer.MIN_VALUE};
        for (int ml : wrong) due(-1, x.lots(ml, -2));
        due(-1, x.lots(23, -3));
        due(-1, x.lots(23, 2));
    }

    private static void law() {
        begin(21);
        due(-100, law(""));
        due(1, law("0"));
        due(0, x.count(1));
        due(1, law("n;b?s;z?m;1234"));
        due(1, law("!!!!!!n"));
        due(1, law("(!-(!(n))+!(-(n)))"));
        due(1, law("((((((n))))))"));
        due(1, law("-----(n-1)-(n)"));
        due(1, law("n<b|n=b&s>1?3"));
        due(1, law("0000"));
        due(-104, law("00000"));
        due(-106, law("!!!!!!!n"));
        due(-106, law("(((((((n)))))))"));
        due(-108, law("!!!!!(n+(n))"));
        due(-100, law(";"));
        due(-100, law("?"));
        due(-100, law("+1"));
        due(-101, law("1 +2"));
        due(-101, law("nb"));
        due(-101, law("n1"));
        due(-102, law("1+"));
        due(-102, law("1++2"));
        due(-102, law("n;"));
        due(-102, law("n;;n"));
        due(-102, law("n?"));
        due(-102, law("n+;n"));
        due(-103, law("n?b?s"));
        due(-103, law("n<b<s"));
        due(-104, law("(n<b=s)"));
        due(1, law("(n<b)<s"));
        due(1, law("n<b&b<s|s>1"));
        due(-102, law("(n"));
        due(-102, law("(n?b)"));
        due(-102, law("(n;b)"));
        due(-101, law("()"));
        due(-101, law("n)"));
        due(-103, law("(n)1"));
        due(-102, law("n|"));
        due(-100, law("x"));
        due(-100, law("N"));
        due(-101, law("1.5"));
        due(0, x.count(1));
        // a text of 120 bytes, and one that ends too early there
        begin(21);
        due(1, law("n+".repeat(59) + "n"));
        due(1, law("n+".repeat(59) + "12"));
        due(-220, law("n+".repeat(60)));
        // a faulty one leaves the law as it was
        due(1, law("1"));
        due(-101, law("9x"));
        due(0, x.shake(0, 2, 0, 501));
    }

    /** The number of letters that the law gives, seen from outside: with 2 strands an even one gives several cords. */
    private static boolean isEven(String text, int nb, int stiff) {
        due(1, law(text));
        int several = x.shake(nb, 10 * stiff + 2, 5, 201);
        due(1, several == 0 || several == 20 ? 1 : 0);
        return several == 20;
    }

    private static void gives(int want, String text) {
        due(1, isEven("(" + text + ")=" + (want < 0 ? "0-" + -want : "" + want), 1234, 5) ? 0 : 1);
    }

    private static void lawsWorkedOut() {
        begin(21);
        gives(12, "n");
        gives(34, "b");
        gives(5, "s");
        gives(2, "m");
        gives(7, "1+2*3");
        gives(9, "(1+2)*3");
        gives(-4, "1-2-3");
        gives(2, "7/3");
        gives(-2, "(-7)/3");
        gives(-1, "(-7)%3");
        gives(1, "7%(-3)");
        gives(0, "7/0");
        gives(0, "7%0");
        gives(3, "7/2%4*1");
        gives(1, "3>2");
        gives(0, "2>3");
        gives(1, "2<3");
        gives(0, "2<2");
        gives(1, "2=2");
        begin(21);
        gives(0, "2=3");
        gives(1, "5|0");
        gives(0, "0|0");
        gives(1, "5&7");
        gives(0, "5&0");
        gives(5, "5");
        gives(1, "1|0&0");
        gives(1, "1+1=2");
        gives(0, "!5");
        gives(1, "!0");
        gives(1, "!!5");
        gives(-5, "-5");
        gives(-4, "-5+1");
        gives(1, "!5+1");
        gives(-1, "-!0");
        begin(21);
        gives(1, "9999*9999*9999<0");
        gives(0, "(-2*1024*1024*1024)/(-1)+2*1024*1024*1024");
        // which line counts
        due(0, isEven("0?2;1", 0, 0) ? 1 : 0);
        due(1, isEven("1?2;1", 0, 0) ? 1 : 0);
        due(0, isEven("1;2", 0, 0) ? 1 : 0);
        due(1, isEven("0?1", 0, 0) ? 1 : 0);
        due(1, isEven("0?1;0?3", 0, 0) ? 1 : 0);
        due(0, isEven("0?2;5?1;2", 0, 0) ? 1 : 0);
        due(0, isEven("-3?1;2", 0, 0) ? 1 : 0);
        due(1, isEven("7", 0, 0) ? 1 : 0);
        due(1, isEven("9999", 0, 0) ? 1 : 0);
        due(1, isEven("-1", 0, 0) ? 1 : 0);
        due(1, isEven("z>99|z<0", 0, 0) ? 1 : 0);
    }

    private static void shake() {
        begin(22);
        due(0, x.shake(0, 2, 3, 500));
        due(50, x.shake(0, 2, 3, 501));
        due(1, law("3"));
        // z from 0: the draw, then letters, as the document's z goes
        int z = 0, knotted = 0;
        for (int i = 0; i < 40; i++) {
            z = z * 1103515245 + 12345;
            int turns = 0;
            for (int k = 0; k < 3; k++) {
                z = z * 1103515245 + 12345;
                turns += (z >>> 8) % 2 == 0 ? 1 : -1;
            }
            if (Math.abs(turns) == 3) knotted++;
        }
        due(knotted, x.shake(0, 2, 0, 400));
        due(1, knotted > 0 && knotted < 40 ? 1 : 0);
        due(0, x.shake(0, 2, 0, 401));
        due(knotted, x.shake(0, 2, 0, 400));
        due(1, law("z%2"));
        z = -77;
        int several = 0;
        for (int i = 0; i < 50; i++) {
            z = z * 1103515245 + 12345;
            if ((z >>> 8) % 100 % 2 == 0) several++;
            else z = z * 1103515245 + 12345;
        }
        due(several, x.shake(0, 2, -77, 501));
        due(0, x.shake(0, 2, -77, 500));
        due(50, x.shake(0, 3, -77, 501));
        due(50, x.shake(0, 4, -77, 501));
        due(1, law("n=98&b=99&s=9&m=2;0"));
        due(0, x.shake(9899, 92, 1, 11));
        due(1, x.shake(9999, 92, 1, 11));
        due(1, x.shake(9898, 92, 1, 11));
        due(1, x.shake(9899, 82, 1, 11));
        due(1, x.shake(9899, 93, 1, 11));
        int[][] wrong = {{-1, 2, 10}, {10000, 2, 10}, {0, 1, 10}, {0, 5, 10}, {0, -2, 10}, {0, 102, 10}, {0, 0, 10},
            {0, 2, 9}, {0, 2, 0}, {0, 2, 12}, {0, 2, 510}, {0, 2, -10}, {0, 2, -1}};
        for (int[] w : wrong) due(-1, x.shake(w[0], w[1], 0, w[2]));
        due(0, x.shake(9999, 94, 0, 10));
    }

    private static void least() {
        begin(23);
        due(-2, x.least(0, 2, 0, 1));
        due(1, law("n=7&b=3&s=9?3;0"));
        due(7, x.least(3, 92, 0, 1));
        due(-2, x.least(4, 92, 0, 1));
        due(-2, x.least(3, 82, 0, 1));
        due(1, law("3"));
        int knotted = x.shake(0, 2, 9, 200);
        due(1, knotted > 0 ? 1 : 0);
        due(0, x.least(0, 2, 9, knotted));
        due(-2, x.least(0, 2, 9, knotted + 1));
        due(1, law("n>98?3"));
        due(99, x.least(0, 2, 9, 1));
        due(99, x.least(99, 2, 9, 1));
        due(-2, x.least(99, 2, 9, 20));
        int[][] wrong = {{-1, 2, 1}, {100, 2, 1}, {0, 1, 1}, {0, 5, 1}, {0, 102, 1}, {0, -8, 1}, {0, 2, 0}, {0, 2, 21}, {0, 2, -1}};
        for (int[] w : wrong) due(-1, x.least(w[0], w[1], 0, w[2]));
    }

    private static void undo() {
        begin(24);
        due(-5, x.undo());
        picture(TREFOIL);
        picture(EIGHT);
        x.change(0, 0);
        x.change(1, 3);
        x.change(0, 1);
        due(2, x.undo());
        due(1, x.of(0, 1));
        due(-2, x.of(1, 1));
        due(1, x.undo());
        due(0, x.of(1, 1));
        due(31, x.led(1, 4, 0));
        due(0, x.undo());
        due(3, x.of(0, 1));
        due(-5, x.undo());
        // 40 at most: of 41 the first one stays
        x.change(1, 0);
        for (int i = 0; i < 40; i++) x.change(0, 0);
        due(40, x.count(2));
        for (int i = 39; i >= 0; i--) due(i, x.undo());
        due(-5, x.undo());
        due(-2, x.of(1, 1));
        due(3, x.of(0, 1));
    }

    private static void redo() {
        begin(25);
        due(-5, x.redo());
        picture(TREFOIL);
        x.change(0, 0);
        x.change(0, 1);
        x.change(0, 2);
        due(-5, x.redo());
        x.undo();
        x.undo();
        due(1, x.redo());
        due(-1, x.of(0, 1));
        due(-1, x.led(0, 1, 1));
        due(1, x.led(0, 2, 1));
        due(2, x.count(2));
        due(0, x.redo());
        due(-3, x.of(0, 1));
        due(-5, x.redo());
        x.undo();
        due(-2000000000, x.change(0, 9));
        due(0, x.redo());
        x.undo();
        due(1, x.change(0, 0));
        due(-5, x.redo());
        due(3, x.count(2));
        begin(25);
        picture(TREFOIL);
        for (int i = 0; i < 45; i++) x.change(0, i % 3);
        for (int i = 0; i < 40; i++) x.undo();
        for (int i = 39; i >= 0; i--) due(i, x.redo());
        due(-5, x.redo());
        due(40, x.count(2));
    }

    private static void body() {
        begin(26);
        due(-1, x.body(-1));
        due(-1, x.body(8));
        for (int i = 0; i < 50; i++) due(i, x.body(i % 8));
        due(-3, x.body(0));
        due(-1, x.body(8));
        due(50, x.count(3));
        x.keep(0, 49);
        due(1, x.taken(0, 0));
    }

    private static void act() {
        begin(27);
        for (int kind = 0; kind < 8; kind++) x.body(kind);
        // by kind, with x 5: lies, crosses, undoes, tells; n is the kind here
        int[][] want = {
            {5, 10, 5, 10 - 1},
            {5 + 1 + 3, 2 * 9, 5 ^ 1, 18 - 0},
            {7, -14, 5 ^ 2, -14 - (1 ^ 2)},
            {8, -2 * 9, (5 ^ 3) * 3, -18 - (1 ^ 3) * 3},
            {5 + 4 + 3, 24, 5 ^ 4, 24 - (1 ^ 4) ^ 5},
            {10, 20, (5 ^ 5) - 7, 20 - ((1 ^ 5) - 7)},
            {22, 44, 5 ^ 6, 44 - (1 ^ 6)},
            {12, -24 + (2 ^ 7), 5 ^ 7, -24 + (2 ^ 7) - (1 ^ 7) - 1}};
        for (int kind = 0; kind < 8; kind++) for (int act = 0; act < 4; act++) due(want[kind][act], x.act(kind, act, 5));
        due(Integer.MIN_VALUE + 3, x.act(1, 0, Integer.MAX_VALUE));
        due(-2, x.act(0, 1, Integer.MAX_VALUE));
        int[][] wrong = {{-1, 0}, {8, 0}, {0, -1}, {0, 4}};
        for (int[] w : wrong) {
            x.act(3, 3, 1);
            due(0, x.act(w[0], w[1], 1));
            due(0, x.count(4));
            due(-1, x.trace(0));
        }
    }

    private static void trace() {
        begin(28);
        for (int kind = 0; kind < 8; kind++) x.body(kind);
        int[][] tells = {{2, 10, 1, 11}, {2, 10, 20, 1, 11}, {2, 30, 10, 1, 11}, {2, 41, 30, 10, 1, 40, 11},
            {50, 2, 10, 20, 1, 11}, {2, 10, 1, 60, 11, 1}, {2, 10, 70, 1, 11}, {81, 2, 80, 30, 10, 1, 11, 11}};
        for (int kind = 0; kind < 8; kind++) {
            x.act(kind, 3, 1);
            due(tells[kind].length, x.count(4));
            for (int i = 0; i < tells[kind].length; i++) due(tells[kind][i], x.trace(i));
            due(-1, x.trace(tells[kind].length));
        }
        due(-1, x.trace(-1));
        due(-1, x.trace(24));
        due(-1, x.trace(Integer.MIN_VALUE));
        x.act(5, 2, 0);
        due(60, x.trace(0));
        due(-1, x.trace(3));
    }

    private static void keep() {
        begin(29);
        due(-1, x.keep(0, 0));
        x.body(4);
        due(1, x.keep(0, 0));
        due(4, x.taken(0, 1));
        due(-12, x.put(0, 0, 1));
        due(1, x.keep(0, -1));
        due(-11, x.taken(0, 1));
        due(1, x.keep(5, 0));
        due(1, x.row(5, 0, 1));
        due(-1, x.keep(5, 1));
        due(0, x.element(5, 0));
        due(1, x.keep(5, 0));
        due(Long.MIN_VALUE, x.element(5, 0));
        due(-1, x.keep(-1, 0));
        due(-1, x.keep(6, -1));
        due(-1, x.keep(0, -2));
    }

    private static void row() {
        begin(30);
        due(1, x.row(0, 0, 0));
        due(-13, x.put(0, 0, 1));
        for (int sort = 0; sort < 5; sort++) {
            due(1, x.row(1, sort, 60));
            due(0, x.element(1, 59));
            due(1, x.put(1, 59, 1));
        }
        due(1, x.row(1, 2, 60));
        due(0, x.element(1, 59));
        due(-1, x.row(1, 2, 61));
        due(-14, x.row(1, 2, -1));
        due(-14, x.row(1, 2, Integer.MIN_VALUE));
        due(-1, x.row(1, 5, -1));
        due(-1, x.row(1, -1, 1));
        due(-1, x.row(6, 0, -1));
        due(-1, x.row(-1, 0, 1));
        due(0, x.element(1, 59));
    }

    private static void put() {
        begin(31);
        due(-1, x.put(6, 0, 0));
        due(-1, x.put(-1, 0, 0));
        due(-11, x.put(0, -1, 0));
        x.body(0);
        x.keep(0, 0);
        due(-12, x.put(0, -1, 0));
        x.row(0, 3, 4);
        due(-13, x.put(0, 4, 0));
        due(-13, x.put(0, -1, 0));
        long v = 0x123456789abcdef0L;
        long[] kept = {(byte) 0xf0, (short) 0xdef0, 0x9abcdef0, v, 1};
        for (int sort = 0; sort < 5; sort++) {
            x.row(0, sort, 3);
            due(1, x.put(0, 2, v));
            due(kept[sort], x.element(0, 2));
            due(0, x.element(0, 1));
        }
        x.put(0, 2, 0);
        due(0, x.element(0, 2));
        x.put(0, 2, 256);
        due(1, x.element(0, 2));
        x.put(0, 2, Long.MIN_VALUE);
        due(1, x.element(0, 2));
    }

    private static void element() {
        begin(32);
        long none = Long.MIN_VALUE;
        due(none, x.element(6, 0));
        due(none, x.element(-1, 0));
        due(none, x.element(0, 0));
        x.body(0);
        x.keep(0, 0);
        due(none, x.element(0, 0));
        x.row(0, 3, 2);
        due(none, x.element(0, 2));
        due(none, x.element(0, -1));
        x.put(0, 0, -7);
        x.put(0, 1, Long.MAX_VALUE);
        due(-7, x.element(0, 0));
        due(Long.MAX_VALUE, x.element(0, 1));
    }

    private static void rowOf(int shelf, int sort, int... v) {
        x.row(shelf, sort, v.length);
        putRow(shelf, 0, v);
    }

    private static void holds(int shelf, int... v) {
        for (int i = 0; i < v.length; i++) due(v[i], x.element(shelf, i));
        due(Long.MIN_VALUE, x.element(shelf, v.length));
    }

    private static void shift() {
        begin(33);
        rowOf(0, 2, 1, 2, 3, 4, 5);
        rowOf(1, 2, 6, 7, 8);
        due(2, x.shift(0, 1, 1, 0, 2));
        holds(1, 2, 3, 8);
        due(4, x.shift(0, 0, 0, 1, 4));
        holds(0, 1, 1, 2, 3, 4);
        due(3, x.shift(0, 2, 0, 0, 3));
        holds(0, 2, 3, 4, 3, 4);
        due(0, x.shift(0, 5, 1, 3, 0));
        int[][] noPlace = {{0, 6, 1, 0, 0}, {0, 0, 1, 4, 0}, {0, 3, 1, 0, 3}, {0, 0, 1, 1, 3}, {0, -1, 1, 0, 1},
            {0, 0, 1, -1, 1}, {0, 0, 1, 0, -1}, {0, Integer.MAX_VALUE, 1, 0, 1}, {0, 1, 1, 1, Integer.MAX_VALUE},
            {0, 0, 1, 0, Integer.MIN_VALUE}};
        for (int[] w : noPlace) due(-13, x.shift(w[0], w[1], w[2], w[3], w[4]));
        rowOf(2, 1, 9);
        due(-12, x.shift(0, 0, 2, 0, 1));
        due(-12, x.shift(2, -1, 0, 0, 1));
        x.body(0);
        x.keep(3, 0);
        due(-12, x.shift(3, 0, 3, 0, 0));
        due(-12, x.shift(3, 0, 0, 0, 0));
        due(-12, x.shift(0, 0, 3, 0, 0));
        due(-11, x.shift(4, 0, 3, 0, 0));
        due(-11, x.shift(3, 0, 4, 0, 0));
        due(-11, x.shift(4, 0, 0, 0, -1));
        due(-1, x.shift(6, 0, 4, 0, 0));
        due(-1, x.shift(4, 0, -1, 0, 0));
        holds(0, 2, 3, 4, 3, 4);
        holds(1, 2, 3, 8);
        holds(2, 9);
    }

    private static void taken() {
        begin(34);
        int[][] above = {{0}, {1, 0}, {2, 0}, {3, 2, 0}, {4, 1, 0}, {5, 0}, {6, 0}, {7, 2, 0}};
        for (int kind = 0; kind < 8; kind++) x.body(kind);
        for (int kind = 0; kind < 8; kind++) {
            x.keep(2, kind);
            for (int k = 0; k < 8; k++) {
                boolean under = false;
                for (int a : above[kind]) under |= a == k;
                due(under ? kind : -12, x.taken(2, k));
            }
        }
        x.row(3, 0, 0);
        due(-12, x.taken(3, 0));
        due(-11, x.taken(4, 0));
        due(-1, x.taken(4, 8));
        due(-1, x.taken(4, -1));
        due(-1, x.taken(6, 0));
        due(-1, x.taken(-1, 0));
    }

    private static void count() {
        begin(35);
        picture(TREFOIL);
        picture("");
        due(2, x.count(0));
        tape("xyz");
        due(3, x.count(1));
        x.change(0, 0);
        x.change(0, 0);
        x.undo();
        due(1, x.count(2));
        x.body(3);
        due(1, x.count(3));
        x.act(0, 1, 1);
        due(4, x.count(4));
        due(-1, x.count(5));
        due(-1, x.count(-1));
    }

    private PromiseTest() { }
}
