/** Promises 13 to 19 and 24, 25: changes, undone and done again, moves, parts, hidden crossings. */
final class MoveEdges {
    private static final int MIN = Integer.MIN_VALUE, MAX = Integer.MAX_VALUE;
    private static final int BAD = -1, NOT = -2, STATE = -5, VOID = -2000000000;
    private static final int[] NO_PICTURES = {-1, 3, 12, MIN, MAX};
    private static final int[] NO_WHATS = {-1, 2, MIN, MAX};

    private static CordPocket x() { return Sentences.x; }

    private static void says(int promise, String sentence) { Sentences.says(promise, sentence); }

    private static void due(long want, long got) { Sentences.due(want, got); }

    static void run() {
        change();
        pulls();
        moves();
        simpler();
        simplify();
        parted();
        hidden();
        undo();
        redo();
    }

    /** The plain ring, a trefoil, and 7 crossings. */
    private static void threePictures() {
        Sentences.picture("");
        Sentences.picture(PictureEdges.TREFOIL);
        Sentences.plait("aaaaaaa", 2);
    }

    private static void change() {
        says(13, "CHANGED at a CROSSING: over and under change about there, and its SIGN.");
        threePictures();
        due(5, x().change(2, 6));
        due(3, x().change(2, 0));
        due(1, x().change(1, 1));
        Sentences.hasVisits(1, 1, 11, 21, 0, 10, 20);
        int[] signs = {1, -1, 1, 1, -1, 1};
        for (int k = 0; k < 6; k++) due(signs[k], x().led(1, k, 1));
        due(3, x().change(1, 1));
        Sentences.hasVisits(1, 1, 10, 21, 0, 11, 20);

        says(13, "CHANGED at a CROSSING: WRITHE then. VOID: BAD.");
        threePictures();
        for (int c = 0; c < 7; c++) due(5 - 2 * c, x().change(2, c));
        due(7, x().count(2));
        for (int c : new int[] {-1, 7, 8, MIN, MAX}) due(VOID, x().change(2, c));
        for (int c : new int[] {-1, 3, 6, MIN, MAX}) due(VOID, x().change(1, c));
        for (int c : new int[] {-1, 0, MIN, MAX}) due(VOID, x().change(0, c));
        for (int p : NO_PICTURES) due(VOID, x().change(p, 0));
        due(7, x().count(2));
        Sentences.fillPictures();
        due(VOID, x().change(12, 0));
    }

    private static void pulls() {
        says(14, "PULLS: the fewest CROSSINGS to be CHANGED, all in thought, so that it is PLAIN; of like ones the least as bits.");
        threePictures();
        int[] many = {0, 1, 3};
        int[] bits = {0, 1, 7};
        for (int p = 0; p < 3; p++) {
            due(many[p], x().pulls(p, 0));
            due(bits[p], x().pulls(p, 1));
        }
        // those that are PLAIN already need none
        due(3, Sentences.picture(PictureEdges.SEVEN_EARS));
        due(0, x().pulls(3, 0));
        due(0, x().pulls(3, 1));
        // an ear, then a trefoil: the ear's crossing is no help
        Sentences.picture("o1+u1o2+u3+o4+u2o3u4");
        due(1, x().pulls(4, 0));
        due(2, x().pulls(4, 1));
        // a trefoil, then an ear, and two trefoils
        Sentences.picture("o1+u2+o3+u1o2u3o4+u4");
        due(1, x().pulls(5, 1));
        due(6, x().join(101));
        due(2, x().pulls(6, 0));
        due(9, x().pulls(6, 1));
        // the others are PLAIN with none, till all three are changed
        due(1, x().change(1, 2));
        due(0, x().pulls(1, 0));
        due(-1, x().change(1, 1));
        due(0, x().pulls(1, 1));
        due(-3, x().change(1, 0));
        due(1, x().pulls(1, 1));
        due(3, x().count(2));

        says(14, "PULLS: how many (what 0), as bits (1). BAD.");
        threePictures();
        for (int what : NO_WHATS) due(BAD, x().pulls(1, what));
        for (int p : NO_PICTURES) for (int what = 0; what <= 1; what++) due(BAD, x().pulls(p, what));
    }

    private static void moves() {
        says(15, "MOVES: ONE: a CROSSING whose two VISITS follow one another (also the last one and the first); it is taken out.");
        Sentences.picture("o1+u1");
        Sentences.picture("u1-o1");
        Sentences.picture("o1+u2+o3+o4+u4u1o2u3");
        Sentences.picture("u1+u2+o3+u4+o2u3o4o1");
        Sentences.picture("o1+u2+o3+u1o2u3o4-u4");
        int[] crossing = {0, 0, 3, 0, 3};
        for (int p = 0; p < 5; p++) {
            due(1, x().moves(p, 0));
            due(crossing[p], x().moves(p, 1));
        }
        due(2, x().simpler(2, 0) + x().simpler(3, 0));
        due(3, x().simpler(2, 1));
        due(3, x().simpler(3, 1));

        says(15, "TWO: two CROSSINGS of unlike SIGNS, whose VISITS over follow one another (in whichever order, also the last and the first), and whose VISITS under do, too; both are taken out.");
        // the pair 0 and 2, and the pair 1 and 2: the least is told
        due(0, Sentences.plait("aaA", 2));
        Sentences.hasVisits(0, 1, 10, 20, 0, 11, 21);
        due(2, x().moves(0, 0));
        due(2, x().moves(0, 1));
        due(0, x().simpler(0, 1));
        // the last and the first
        due(1, Sentences.plait("aaaaA", 2));
        due(2, x().moves(1, 0));
        due(4, x().moves(1, 1));
        // over 0 then 3, under 3 (the last) then 0 (the first)
        due(2, Sentences.picture(PictureEdges.EIGHT));
        due(0, x().moves(2, 0));
        due(-2, x().change(2, 0));
        Sentences.hasVisits(2, 0, 10, 21, 1, 31, 20, 11, 30);
        due(2, x().moves(2, 0));
        due(3, x().moves(2, 1));
        // like signs, all of them: no pair
        due(3, Sentences.plait("aaaaaaa", 2));
        due(0, x().moves(3, 0));
        // 1 and 2 have unlike signs; they follow one another over, but not under
        due(4, Sentences.picture("o1+o2+o3-u4-o5-u1o6+u3o4u5u2u6"));
        due(0, x().moves(4, 0));
        // and so the other way about
        due(5, x().mirror(4));
        due(0, x().moves(5, 0));

        says(15, "A MOVE that there is: 0 none, 1 ONE, 2 TWO (what 0), its CROSSING, or 10 times the one and the other of a pair (1). BAD; NOT (what 1: none).");
        threePictures();
        for (int p = 0; p < 3; p++) {
            due(0, x().moves(p, 0));
            due(NOT, x().moves(p, 1));
        }
        for (int what : NO_WHATS) for (int p = 0; p < 3; p++) due(BAD, x().moves(p, what));
        for (int p : NO_PICTURES) for (int what = 0; what <= 1; what++) due(BAD, x().moves(p, what));
        due(3, Sentences.plait("aaaaaAa", 2));
        due(2, x().moves(3, 0));
        due(45, x().moves(3, 1));
        due(5, x().change(2, 6));
        due(2, x().moves(2, 0));
        due(6, x().moves(2, 1));
    }

    private static void simpler() {
        says(16, "SIMPLER: by the least CROSSING with ONE, else by the least pair (the least CROSSING, then the other) with TWO; again and again till there is none: how many MOVES, how many CROSSINGS are left.");
        threePictures();
        Sentences.picture(PictureEdges.SEVEN_EARS);
        Sentences.plait("aaaaaaA", 2);
        Sentences.plait("aAaAaAa", 2);
        Sentences.picture("o1+u1");
        int[] moves = {0, 0, 0, 7, 1, 4, 1};
        int[] left = {0, 3, 7, 0, 5, 0, 0};
        for (int p = 0; p < 7; p++) {
            due(moves[p], x().simpler(p, 0));
            due(left[p], x().simpler(p, 1));
        }
        // a pair by TWO, then ears that come of it, one by one
        due(1, x().change(1, 0));
        due(2, x().simpler(1, 0));
        due(0, x().simpler(1, 1));

        says(16, "SIMPLER, in thought: how many MOVES (what 0), CROSSINGS that are left (1). BAD.");
        threePictures();
        for (int what : NO_WHATS) due(BAD, x().simpler(1, what));
        for (int p : NO_PICTURES) for (int what = 0; what <= 1; what++) due(BAD, x().simpler(p, what));
        due(1, x().change(1, 0));
        due(0, x().simpler(1, 1));
        due(3, x().of(1, 0));
        due(1, x().count(2));
        due(0, x().undo());
        due(0, x().simpler(1, 0));
        due(0, x().redo());
    }

    private static void simplify() {
        says(17, "What is left is numbered anew from VISIT 0 on (of those left).");
        // an ear ahead of a trefoil; then an ear within it, whose going takes the first visits
        due(0, Sentences.picture("o1+u1o2+u3+o4+u2o3u4"));
        due(3, x().simplify(0));
        Sentences.hasVisits(0, 1, 10, 21, 0, 11, 20);
        due(1, Sentences.picture("u1-u2+o3+u4+o2u3o4o1"));
        due(3, x().simplify(1));
        Sentences.hasVisits(1, 0, 11, 20, 1, 10, 21);
        for (int k = 0; k < 6; k++) due(1, x().led(1, k, 1));
        // first 0 and 4 go, and with them the first visit
        due(2, Sentences.plait("aaaaA", 2));
        due(3, x().simplify(2));
        Sentences.hasVisits(2, 0, 11, 20, 1, 10, 21);

        says(17, "SIMPLER, done: CROSSINGS that are left. BAD.");
        threePictures();
        due(0, x().simplify(0));
        due(3, x().simplify(1));
        due(7, x().simplify(2));
        Sentences.hasVisits(1, 1, 10, 21, 0, 11, 20);
        for (int p : NO_PICTURES) due(BAD, x().simplify(p));
        due(3, Sentences.picture(PictureEdges.SEVEN_EARS));
        due(0, x().simplify(3));
        Sentences.hasVisits(3);
        due(2, x().of(3, 2));
        due(VOID, x().change(3, 0));
        due(1, x().of(3, 5));

        says(17, "SIMPLER by call ends them all.");
        threePictures();
        x().change(1, 0);
        x().change(2, 0);
        x().change(2, 1);
        x().undo();
        for (int p : NO_PICTURES) due(BAD, x().simplify(p));
        due(2, x().count(2));
        due(0, x().simplify(0));
        due(0, x().count(2));
        due(STATE, x().undo());
        due(STATE, x().redo());
        due(1, x().of(1, 1));
        due(5, x().of(2, 1));
        // what was undone is ended, too; and with moves to do as without
        x().change(2, 3);
        due(0, x().undo());
        due(0, x().simplify(1));
        due(STATE, x().redo());
        due(5, x().of(2, 1));
    }

    private static void parted() {
        says(18, "PARTED: the least number of VISITS, from some VISIT on (of like ones the least VISIT), that hold both VISITS of all their CROSSINGS (2 at least, and fewer than all); NOT: none.");
        threePictures();
        Sentences.picture("o1+u1");
        Sentences.picture("o1+u1o2+u2");
        Sentences.picture("u1+o2+u2o1");
        Sentences.picture(PictureEdges.SEVEN_EARS);
        due(7, x().join(101));
        // the last visit and the first
        Sentences.picture("u1+u2+o3+u4+o2u3o4o1");
        // two trefoils, begun within the second one: the first lies from 3 on, before the one that goes round from 9
        Sentences.picture("u1+o2+u3+o4+u5+o6+u4o5u6o1u2o3");
        int[] many = {NOT, NOT, NOT, NOT, 2, 2, 2, 6, 2, 6};
        int[] first = {NOT, NOT, NOT, NOT, 0, 1, 0, 0, 7, 3};
        for (int p = 0; p < 10; p++) {
            due(many[p], x().parted(p, 0));
            due(first[p], x().parted(p, 1));
        }
        // all but 2 visits: an ear is the less
        due(10, Sentences.picture("o1+u2+o3+u1o2u3o4+u4"));
        due(2, x().parted(10, 0));
        due(6, x().parted(10, 1));

        says(18, "PARTED: how many VISITS (what 0), from which on (1). BAD; NOT.");
        threePictures();
        for (int what : NO_WHATS) for (int p = 0; p < 3; p++) due(BAD, x().parted(p, what));
        for (int p : NO_PICTURES) for (int what = 0; what <= 1; what++) due(BAD, x().parted(p, what));
        for (int p = 0; p < 3; p++) for (int what = 0; what <= 1; what++) due(NOT, x().parted(p, what));
    }

    private static void hidden() {
        says(19, "HIDDEN: of told CROSSINGS (bits) it is not known which is over: of all ways to take them (CHANGED or not): how many are PLAIN; how many ways; how many unlike SUMS there are.");
        threePictures();
        int[][] want = {{0, 0, 1, 1}, {1, 0, 0, 1}, {1, 1, 1, 2}, {1, 4, 1, 2}, {1, 3, 3, 2}, {1, 7, 6, 3},
            {2, 0, 0, 1}, {2, 64, 0, 2}, {2, 127, 70, 7}};
        for (int[] w : want) {
            due(w[2], x().hidden(w[0], w[1], 0));
            due(w[3], x().hidden(w[0], w[1], 1));
        }
        due(3, x().of(1, 1));

        says(19, "HIDDEN CROSSINGS (bits): how many are PLAIN (what 0), unlike SUMS (1). BAD (bits beyond).");
        threePictures();
        due(3, Sentences.picture("o1+u1"));
        int[][] beyond = {{0, 1}, {0, 64}, {1, 8}, {1, 9}, {1, 15}, {1, 64}, {2, 128}, {2, 255}, {3, 2}, {3, 3}};
        for (int[] w : beyond) for (int what = 0; what <= 1; what++) due(BAD, x().hidden(w[0], w[1], what));
        for (int bits : new int[] {-1, MIN, MAX, -128}) for (int p = 0; p < 4; p++) due(BAD, x().hidden(p, bits, 0));
        for (int what : NO_WHATS) due(BAD, x().hidden(1, 7, what));
        for (int p : new int[] {-1, 4, 12, MIN, MAX}) for (int what = 0; what <= 1; what++) due(BAD, x().hidden(p, 0, what));
        due(2, x().hidden(3, 1, 0));
        due(1, x().hidden(3, 1, 1));
    }

    private static void undo() {
        says(24, "CHANGES (CROSSINGS CHANGED, by call) can be UNDONE, the latest first, and DONE AGAIN (as long as no other came behind);");
        threePictures();
        x().change(1, 0);
        x().change(2, 6);
        x().change(1, 2);
        due(2, x().undo());
        due(1, x().of(1, 1));
        due(0, x().led(1, 0, 0));
        due(1, x().undo());
        due(7, x().of(2, 1));
        due(0, x().undo());
        due(3, x().of(1, 1));
        due(STATE, x().undo());
        due(3, x().of(1, 1));

        // of the last picture's last crossing
        Sentences.anew();
        for (int p = 0; p < 11; p++) x().picture();
        due(11, Sentences.plait("aaaaaaa", 2));
        due(5, x().change(11, 6));
        due(0, x().undo());
        due(7, x().of(11, 1));
        due(0, x().redo());
        due(5, x().of(11, 1));
        due(-1, x().led(11, 6, 1));

        says(24, "40 at most are kept;");
        threePictures();
        x().change(2, 6);
        for (int i = 1; i < 40; i++) x().change(1, i % 3);
        due(40, x().count(2));
        for (int left = 39; left >= 0; left--) due(left, x().undo());
        due(7, x().of(2, 1));
        due(STATE, x().undo());
        Sentences.anew();
        threePictures();
        x().change(2, 6);
        x().change(2, 0);
        for (int i = 1; i < 40; i++) {
            x().change(1, i % 3);
            due(Math.min(40, i + 2), x().count(2));
        }
        for (int left = 39; left >= 0; left--) due(left, x().undo());
        // the 41st pushed out the first: crossing 6 stays changed, crossing 0 does not
        due(STATE, x().undo());
        due(5, x().of(2, 1));
        due(1, x().led(2, 0, 1));
        due(3, x().of(1, 1));

        says(24, "UNDONE: how many may still be. STATE: none.");
        due(STATE, x().undo());
        threePictures();
        due(STATE, x().undo());
        due(VOID, x().change(1, 3));
        due(STATE, x().undo());
        x().change(1, 2);
        due(0, x().undo());
        due(STATE, x().undo());
        due(0, x().count(2));
    }

    private static void redo() {
        says(25, "and DONE AGAIN (as long as no other came behind); 40 at most are kept;");
        threePictures();
        for (int i = 0; i < 41; i++) x().change(2, i % 7);
        for (int i = 0; i < 40; i++) x().undo();
        for (int left = 39; left >= 0; left--) due(left, x().redo());
        due(40, x().count(2));
        due(STATE, x().redo());
        Sentences.anew();
        threePictures();
        x().change(1, 0);
        x().change(1, 1);
        x().undo();
        x().undo();
        // what is refused comes not behind
        due(VOID, x().change(1, 3));
        due(VOID, x().change(0, 0));
        due(1, x().redo());
        due(1, x().of(1, 1));
        due(-1, x().change(1, 2));
        due(STATE, x().redo());
        due(2, x().count(2));
        due(1, x().undo());
        due(0, x().redo());
        due(-1, x().of(1, 1));

        says(25, "DONE AGAIN: how many may still be. STATE: none.");
        due(STATE, x().redo());
        threePictures();
        x().change(1, 2);
        due(STATE, x().redo());
        due(0, x().undo());
        due(0, x().redo());
        due(1, x().of(1, 1));
        due(STATE, x().redo());
        due(1, x().count(2));
    }

    private MoveEdges() { }
}
