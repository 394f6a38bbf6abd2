/** Promises 1 to 12: a new object, the tape, pictures and what they are made of. */
final class PictureEdges {
    static final String TREFOIL = "o1+u2+o3+u1o2u3";
    static final String EIGHT = "o1+u2-o3-u1o4+u3o2u4";
    static final String EAR = "o1+u1";
    static final String COMES_OUT = "o1+o2-u2u1";
    static final String UNDRAWABLE = "o1+o2+u1u2";
    static final String SEVEN_EARS = "o1+u1o2+u2o3+u3o4+u4o5+u5o6+u6o7+u7";
    static final String SEVEN_OVER = "o1+o2+o3+o4+o5+o6+o7+";
    private static final int MIN = Integer.MIN_VALUE, MAX = Integer.MAX_VALUE;
    private static final int BAD = -1, NOT = -2, FULL = -3, BIG = -4, VOID = -2000000000;

    static CordPocket x() { return Sentences.x; }

    static void says(int promise, String sentence) { Sentences.says(promise, sentence); }

    static void due(long want, long got) { Sentences.due(want, got); }

    static void run() {
        aNewObject();
        answers();
        feed();
        picturesAsTheyCome();
        visitsOfATape();
        faults();
        drawn();
        picture();
        fromRow();
        visitsOfARow();
        plait();
        of();
        which();
        led();
        sum();
        alike();
        mirror();
        turn();
        join();
    }

    private static void aNewObject() {
        says(1, "No pictures.");
        due(0, x().count(0));
        for (int what = 0; what <= 6; what++) due(VOID, x().of(0, what));
        for (int what = 0; what <= 2; what++) due(VOID, x().led(0, 0, what));
        due(VOID, x().sum(0, 0));
        due(VOID, x().change(0, 0));
        due(BAD, x().alike(0));
        due(BAD, x().mirror(0));
        due(BAD, x().turn(0));
        due(BAD, x().join(0));
        due(BAD, x().pulls(0, 0));
        due(BAD, x().moves(0, 0));
        due(BAD, x().simpler(0, 0));
        due(BAD, x().simplify(0));
        due(BAD, x().parted(0, 0));
        due(BAD, x().hidden(0, 0, 0));
        due(BAD, x().lots(21, 0));
        due(0, x().picture());
        due(1, x().count(0));

        says(1, "An object is used for at most 512 calls after it has been made; what later calls answer is free.");
        for (int call = 1; call <= 30; call++) due(4 * call, x().feed(4, 0));
        for (int call = 31; call < 512; call++) due(FULL, x().feed(1, 0));
        due(120, x().count(1));

        says(1, "All memory is the class's own.");
        CordPocket other = new CordPocket();
        other.picture();
        other.body(3);
        other.row(0, 3, 5);
        due(0, x().count(0));
        due(0, x().count(3));
        due(-11, x().taken(0, 0));
    }

    private static void answers() {
        says(1, "BAD (-1): no such number, or it is not as said; NOT (-2): as told; FULL (-3); BIG (-4); STATE (-5): as told; -11 to -14.");
        due(-1, CordPocket.BAD);
        due(-2, CordPocket.NOT);
        due(-3, CordPocket.FULL);
        due(-4, CordPocket.BIG);
        due(-5, CordPocket.STATE);
        says(1, "VOID is -2000000000.");
        due(-2000000000, CordPocket.VOID);
    }

    private static void feed() {
        says(2, "n (1 .. 4) bytes come to THE TAPE, the lowest of v first: how many it has.");
        for (int n : new int[] {0, -1, MIN, 5, 6, MAX}) due(BAD, x().feed(n, 'o'));
        due(0, x().count(1));
        due(1, x().feed(1, 0x21212100 | 'o'));
        due(5, x().feed(4, 0x3175_2b31));
        due(0, x().picture());
        Sentences.hasVisits(0, 1, 0);
        due(1, x().led(0, 0, 1));
        due(2, x().feed(2, 0x2121_316f));
        due(5, x().feed(3, 0xff_75_31_2d & 0xff000000 | 0x31752d));
        due(1, x().picture());
        due(-1, x().led(1, 0, 1));
        Sentences.anew();
        // bytes are bytes: the highest bit too
        due(1, x().feed(1, 'o' | 128));
        due(-100, x().picture());

        says(2, "BAD, FULL (120).");
        for (int call = 1; call <= 29; call++) due(4 * call, x().feed(4, 0));
        due(117, x().feed(1, 0));
        due(FULL, x().feed(4, 0));
        due(117, x().count(1));
        due(120, x().feed(3, 0));
        for (int n = 1; n <= 4; n++) due(FULL, x().feed(n, 0));
        due(BAD, x().feed(0, 0));
        due(BAD, x().feed(5, 0));
        due(120, x().count(1));
        Sentences.anew();
        for (int call = 1; call <= 29; call++) x().feed(4, 0);
        due(119, x().feed(3, 0));
        for (int n = 2; n <= 4; n++) due(FULL, x().feed(n, 0));
        due(120, x().feed(1, 0));
        due(FULL, x().feed(1, 0));
        Sentences.anew();
        for (int call = 1; call <= 29; call++) x().feed(4, 0);
        due(120, x().feed(4, 0));
        due(-100, x().law());
        due(4, x().feed(4, 0));
    }

    private static void picturesAsTheyCome() {
        says(3, "PICTURES 0 .. 11, as they come");
        for (int p = 0; p <= 11; p++) {
            due(VOID, x().of(p, 0));
            due(p, Sentences.picture(p % 2 == 0 ? EAR : ""));
            due(p + 1, x().count(0));
        }
        due(FULL, x().picture());
        due(12, x().count(0));
        for (int p = 0; p <= 11; p++) due(p % 2 == 0 ? 1 : 0, x().of(p, 0));
        for (int p : new int[] {12, 13, -1, MIN, MAX}) due(VOID, x().of(p, 0));

        says(3, "CROSSINGS 0 .. 6 (n of them, 0 to 7)");
        due(0, Sentences.picture(""));
        due(0, x().of(0, 0));
        due(1, Sentences.picture(SEVEN_EARS));
        due(7, x().of(1, 0));
        due(0, x().led(1, 1, 0));
        due(61, x().led(1, 12, 0));
        due(-135, Sentences.picture(SEVEN_EARS + "o8+u8"));

        says(3, "each with a SIGN (1, -1)");
        due(0, Sentences.picture("o1+u1u2-o2"));
        due(1, x().led(0, 0, 1));
        due(1, x().led(0, 1, 1));
        due(-1, x().led(0, 2, 1));
        due(-1, x().led(0, 3, 1));

        says(3, "each CROSSING has one of each");
        for (String text : new String[] {"o1+o1", "u1+u1", "o1-o1u1"}) due(-104, Sentences.picture(text));
        due(-106, Sentences.picture("o1+u1u1"));
        due(-106, Sentences.picture("o1+u1o1"));
        due(-103, Sentences.picture("o1+"));
    }

    private static void visitsOfATape() {
        says(3, "THE TAPE of a PICTURE: VISITS, none parting: o or u, a digit (1 .. 7: the CROSSING and 1), and, if it is the first one of that CROSSING, + or - (its SIGN).");
        for (String parting : new String[] {" ", ",", ";", "\n"}) {
            due(-103, Sentences.picture("o1+" + parting + "u1"));
            due(-100, Sentences.picture(parting + EAR));
            due(-105, Sentences.picture(EAR + parting));
        }
        for (char c : new char[] {'n', 'p', 't', 'v', 'O', 'U', '0', '1', '+', 0, 127, 'o' | 128, 'u' | 128, 255}) {
            due(-100, Sentences.picture(c + "1+u1"));
            due(-103, Sentences.picture("o1+" + c + "1"));
        }
        Sentences.anew();
        for (char c : new char[] {'0', '/', '8', '9', ':', '2', '7', 'o', '-', 0, '1' | 128}) {
            due(-101, Sentences.picture("o" + c + "+"));
            due(-104, Sentences.picture("o1+u" + (c == '2' ? '3' : c) + "+"));
        }
        for (char c : new char[] {'*', ',', '.', '/', 'u', '1', 0, '+' | 128}) due(-102, Sentences.picture("o1" + c + "u1"));
        due(-105, Sentences.picture("o1+u1+"));
        due(-105, Sentences.picture("o1-u1-"));
        due(-102, Sentences.picture("o1u1"));

        says(3, "A new CROSSING has the least digit that was not there.");
        due(-101, Sentences.picture("o2+u2"));
        due(-101, Sentences.picture("u7-o7"));
        due(-104, Sentences.picture("o1+u3+o3u1"));
        due(-106, Sentences.picture("o1+u1o3+u3"));
        due(-116, Sentences.picture("o1+u1o2+u2o3+u3o5+u5"));
        due(0, Sentences.picture("o1+u1o2+u2o3+u3o4+u4"));

        says(3, "No bytes: the PLAIN RING.");
        due(0, x().picture());
        due(0, x().of(0, 0));
        due(1, x().of(0, 5));
        Sentences.hasVisits(0);
    }

    private static void faults() {
        says(3, "FAULT: the place (from 0) of the first byte with which no text goes on");
        due(-100, Sentences.picture("x"));
        due(-100, Sentences.picture("xo1+u1"));
        due(-100, Sentences.picture("1+"));
        due(-103, Sentences.picture("o1+xx"));
        due(-135, Sentences.picture(SEVEN_EARS + "x"));
        for (int k = 0; k < SEVEN_EARS.length(); k++) due(-100 - k, Sentences.picture(SEVEN_EARS.substring(0, k) + "x"));
        Sentences.anew();
        // the text ahead of it can't be drawn: the byte is told, not that
        due(-110, Sentences.picture(UNDRAWABLE + "x"));

        says(3, "(so a digit of a CROSSING that is not the next new one, that had both, or had the same one, over or under;");
        due(-101, Sentences.picture("o2"));
        due(-104, Sentences.picture("o1+u3"));
        due(-106, Sentences.picture("o1+u1o1"));
        due(-106, Sentences.picture("o1+u1u1"));
        due(-109, Sentences.picture("o1+u2-u1o1o2"));
        due(-104, Sentences.picture("o1+o1"));
        due(-104, Sentences.picture("u1+u1"));
        due(-107, Sentences.picture("o1+u2-u2"));
        due(-122, Sentences.picture(SEVEN_OVER + "u8"));
        due(-122, Sentences.picture(SEVEN_OVER + "u0"));

        says(3, "also an o or u behind which no digit may stand);");
        due(-121, Sentences.picture(SEVEN_OVER + "o"));
        due(-121, Sentences.picture(SEVEN_OVER + "o1"));
        due(-121, Sentences.picture(SEVEN_OVER.replace('o', 'u') + "u"));
        due(-122, Sentences.picture(SEVEN_OVER + "u"));
        due(-122, Sentences.picture(SEVEN_OVER.replace('o', 'u') + "o"));
        due(-135, Sentences.picture(SEVEN_EARS + "o"));
        due(-135, Sentences.picture(SEVEN_EARS + "u"));
        due(-133, Sentences.picture(SEVEN_EARS.substring(0, 33) + "o"));
        due(-134, Sentences.picture(SEVEN_EARS.substring(0, 33) + "u"));
        // with 6 crossings that had both a seventh may come
        due(-131, Sentences.picture(SEVEN_EARS.substring(0, 30) + "o"));
        due(-131, Sentences.picture(SEVEN_EARS.substring(0, 30) + "u"));

        says(3, "the length, if it ends too early (some CROSSING has one VISIT).");
        String[] early = {"o", "u", "o1", "o1+", "o1+u", "o1+u2", "o1+u2-", "o1+u2-u1", SEVEN_OVER,
            SEVEN_EARS.substring(0, 34), SEVEN_EARS.substring(0, 33), SEVEN_EARS.substring(0, 31)};
        for (String text : early) due(-100 - text.length(), Sentences.picture(text));
        due(0, Sentences.picture(SEVEN_EARS));
    }

    private static void drawn() {
        says(3, "It can be DRAWN, if there are n and 2 (with n 0: always; 2 FACES are told then).");
        due(0, Sentences.picture(""));
        due(2, x().of(0, 2));
        String[] ears = {"o1+u1", "o1-u1", "u1+o1", "u1-o1"};
        for (int i = 0; i < 4; i++) {
            due(i + 1, Sentences.picture(ears[i]));
            due(3, x().of(i + 1, 2));
        }
        for (String text : new String[] {"o1+o2+u1u2", "o1+o2-u1u2", "o1-u2+u1o2", "u1-u2-o1o2"}) due(NOT, Sentences.picture(text));
        due(5, Sentences.picture("o1+u2+o3+u1o2u3"));
        due(6, Sentences.picture("o1-u2-o3-u1o2u3"));
        due(5, x().of(5, 2));
        due(5, x().of(6, 2));
        due(7, Sentences.picture(SEVEN_EARS));
        due(9, x().of(7, 2));
        due(8, x().count(0));

        says(3, "At a CROSSING, going round it, lie: SIGN 1: over in, under in, over out, under out; -1: over in, under out, over out, under in.");
        // of a trefoil's visits all signs are one or the other; with another one among them it can't be drawn
        for (int bits = 0; bits < 8; bits++) {
            String text = "o1" + sign(bits, 0) + "u2" + sign(bits, 1) + "o3" + sign(bits, 2) + "u1o2u3";
            int answer = Sentences.picture(text);
            due(bits == 0 || bits == 7 ? 1 : 0, answer >= 0 ? 1 : 0);
            if (answer < 0) due(NOT, answer);
        }
    }

    private static char sign(int bits, int crossing) {
        return (bits >> crossing & 1) != 0 ? '+' : '-';
    }

    private static void picture() {
        says(3, "THE TAPE becomes a PICTURE: its number; -100 less its FAULT; NOT: it can't be DRAWN; THE TAPE is empty then.");
        due(0, Sentences.picture(TREFOIL));
        due(0, x().count(1));
        due(-115, Sentences.picture(TREFOIL + "x"));
        due(0, x().count(1));
        due(NOT, Sentences.picture(UNDRAWABLE));
        due(0, x().count(1));
        due(1, x().count(0));
        due(1, x().picture());
        Sentences.hasVisits(0, 1, 10, 21, 0, 11, 20);
        Sentences.hasVisits(1);

        says(3, "FULL (it stays).");
        Sentences.fillPictures();
        due(FULL, x().picture());
        Sentences.tape(EAR);
        due(FULL, x().picture());
        due(FULL, x().picture());
        due(5, x().count(1));
        due(6, x().feed(1, 0));
        due(12, x().count(0));
        due(-100, x().law());
        due(0, x().count(1));
    }

    private static void fromRow() {
        says(4, "A PICTURE FROM A ROW on a SHELF, from place i on, of n (0 .. 7) CROSSINGS: its number.");
        Sentences.rowOf(0, 0, 11, 10, 21, 20, 31, 30, 41, 40, 51, 50, 61, 60, 71, 70);
        due(0, x().fromRow(0, 0, 0));
        due(1, x().fromRow(0, 0, 7));
        due(2, x().fromRow(0, 0, 1));
        int[] crossings = {0, 7, 1};
        for (int p = 0; p < 3; p++) due(crossings[p], x().of(p, 0));
        due(BAD, x().fromRow(0, 0, 8));
        due(BAD, x().fromRow(0, 0, -1));
        due(BAD, x().fromRow(0, 0, MAX));
        due(BAD, x().fromRow(0, 0, MIN));
        for (int shelf : new int[] {-1, 6, MIN, MAX}) due(BAD, x().fromRow(shelf, 0, 1));
        x().row(5, 0, 2);
        Sentences.put(5, 0, -11, -10);
        due(3, x().fromRow(5, 0, 1));
        due(-1, x().of(3, 1));

        says(4, "BAD, FULL, -11 (the SHELF holds nothing), -12 (no ROW of bytes), -13 (it ends);");
        due(-11, x().fromRow(0, 0, 0));
        x().body(0);
        x().keep(1, 0);
        due(-12, x().fromRow(1, 0, 0));
        for (int sort = 1; sort <= 4; sort++) {
            x().row(1, sort, 60);
            due(-12, x().fromRow(1, 99, 7));
        }
        x().row(2, 0, 13);
        due(-13, x().fromRow(2, 0, 7));
        due(-13, x().fromRow(2, 12, 1));
        due(-13, x().fromRow(2, 13, 1));
        due(-13, x().fromRow(2, -1, 1));
        due(-13, x().fromRow(2, MIN, 1));
        due(-13, x().fromRow(2, MAX, 7));
        due(-13, x().fromRow(2, MAX - 13, 7));
        due(0, x().fromRow(2, 13, 0));
        due(-13, x().fromRow(2, 14, 0));
        Sentences.put(2, 11, 11, 10);
        due(1, x().fromRow(2, 11, 1));
        x().row(3, 0, 0);
        due(2, x().fromRow(3, 0, 0));
        due(-13, x().fromRow(3, 0, 1));
        Sentences.fillPictures();
        due(FULL, x().fromRow(2, 11, 1));
        due(FULL, x().fromRow(0, 0, 1));
        due(FULL, x().fromRow(1, 0, 1));
        due(FULL, x().fromRow(2, 12, 1));
        due(BAD, x().fromRow(6, 0, 1));
        due(BAD, x().fromRow(2, 0, 8));

        says(4, "NOT: the VISITS may not be so, or it can't be DRAWN.");
        Sentences.rowOf(0, 0, 11, 21, 10, 20, 0, 11);
        due(NOT, x().fromRow(0, 0, 2));
        due(NOT, x().fromRow(0, 0, 1));
        due(NOT, x().fromRow(0, 4, 1));
        due(0, x().count(0));
        // 11 and 10 lie behind the visits that are told
        Sentences.rowOf(1, 0, 11, 21, 20, 10);
        due(NOT, x().fromRow(1, 0, 1));
        due(0, x().fromRow(1, 0, 2));
    }

    private static void visitsOfARow() {
        says(4, "A PICTURE FROM A ROW of bytes, from a place on: 2 n bytes: VISITS: 10 times the CROSSING and 1, and 1 for over, 0 for under; below 0, if the SIGN is -1 (told at both VISITS);");
        int[][] wrong = {{0, 0}, {1, 0}, {-1, 0}, {9, 10}, {12, 10}, {11, 9}, {11, 12}, {19, 10}, {21, 20}, {81, 80},
            {127, 126}, {-128, -127}, {11, 11}, {10, 10}, {11, 20}, {11, 0}, {11, 1}};
        for (int[] visits : wrong) {
            Sentences.rowOf(0, 0, visits);
            due(NOT, x().fromRow(0, 0, 1));
        }
        Sentences.rowOf(0, 0, 10, 11);
        due(0, x().fromRow(0, 0, 1));
        Sentences.rowOf(0, 0, -11, -10);
        due(1, x().fromRow(0, 0, 1));
        Sentences.hasVisits(0, 0, 1);
        Sentences.hasVisits(1, 1, 0);
        due(1, x().led(0, 0, 1));
        due(-1, x().led(1, 0, 1));

        says(4, "they are read as THE TAPE would be (with unlike SIGNS at both VISITS they may not be so).");
        int[][] unlike = {{11, -10}, {-11, 10}, {10, -11}};
        for (int[] visits : unlike) {
            Sentences.rowOf(0, 0, visits);
            due(NOT, x().fromRow(0, 0, 1));
        }
        Sentences.rowOf(0, 0, 21, 20, 11, 10);
        due(NOT, x().fromRow(0, 0, 2));
        Sentences.rowOf(0, 0, 11, 10, 31, 30);
        due(NOT, x().fromRow(0, 0, 2));
        Sentences.rowOf(0, 0, 11, 10, -21, -20);
        due(0, x().fromRow(0, 0, 2));
        // a row never told the eighth: with 7 all visits are taken
        Sentences.rowOf(0, 0, 11, 21, 31, 41, 51, 61, 71, 81, 80, 70, 60, 50, 40, 30);
        due(NOT, x().fromRow(0, 0, 7));
    }

    private static void plait() {
        says(5, "with m STRANDS (2 .. 4) letters a, b, c (of those below m: a is between STRANDS 0 and 1, and so on):");
        for (int m : new int[] {1, 0, -1, MIN, 5, 6, MAX}) due(BAD, x().plait(m));
        String[] last = {"", "", "a", "b", "c"}, beyond = {"", "", "b", "c", "d"};
        for (int m = 2; m <= 4; m++) {
            due(-100, Sentences.plait(beyond[m], m));
            due(-100, Sentences.plait(beyond[m].toUpperCase(), m));
            due(m == 2 ? 0 : NOT, Sentences.plait(last[m], m));
        }
        due(1, Sentences.plait("ab", 3));
        due(2, Sentences.plait("abc", 4));
        due(3, Sentences.plait("CBA", 4));

        says(5, "the left one goes over the right one to the right; SIGN 1; capitals: under, SIGN -1.");
        due(0, Sentences.plait("a", 2));
        due(1, Sentences.plait("A", 2));
        Sentences.hasVisits(0, 1, 0);
        Sentences.hasVisits(1, 0, 1);
        due(1, x().led(0, 0, 1));
        due(-1, x().led(1, 0, 1));

        says(5, "(At each letter both STRANDS change places; they all go on in one way.) CLOSED: STRAND i at the end goes on as STRAND i at the beginning.");
        due(0, Sentences.plait("aaa", 2));
        Sentences.hasVisits(0, 1, 10, 21, 0, 11, 20);
        due(1, Sentences.plait("ab", 3));
        Sentences.hasVisits(1, 1, 11, 10, 0);

        says(5, "If all is one cord then, it is a PICTURE: VISITS from STRAND 0 at the beginning on; NOT: several cords.");
        due(0, Sentences.plait("bA", 3));
        Sentences.hasVisits(0, 0, 11, 10, 1);
        due(-1, x().led(0, 0, 1));
        due(NOT, Sentences.plait("aa", 2));
        due(NOT, Sentences.plait("a", 3));
        due(NOT, Sentences.plait("b", 3));
        due(NOT, Sentences.plait("ac", 4));
        due(NOT, Sentences.plait("aaaaaa", 2));

        says(5, "By THE TAPE: a word of at most 7 letters; FAULT: the place of the first byte that is none, or is the eighth (no letters: several cords).");
        for (int m = 2; m <= 4; m++) due(NOT, x().plait(m));
        due(0, Sentences.plait("aaaaaaa", 2));
        due(7, x().of(0, 0));
        due(-107, Sentences.plait("aaaaaaaa", 2));
        due(-107, Sentences.plait("aaaaaaaaa", 2));
        due(-107, Sentences.plait("aaaaaaa!", 2));
        due(-106, Sentences.plait("aaaaaa!a", 2));
        due(-107, Sentences.plait("AAAAAAAA", 2));
        due(-107, Sentences.plait("abcabcab", 4));
        for (char c : new char[] {'`', '@', 'd', 'D', '{', '[', ' ', '1', 0, 'a' | 128, 'A' | 128, 255}) {
            due(-100, Sentences.plait("" + c, 4));
            due(-101, Sentences.plait("a" + c + "a", 4));
        }

        says(5, "THE TAPE becomes a PLAIT of m STRANDS, a PICTURE: its number; -100 less its FAULT; NOT: several cords; THE TAPE is empty then.");
        due(0, Sentences.plait("a", 2));
        due(0, x().count(1));
        due(-101, Sentences.plait("ax", 2));
        due(0, x().count(1));
        due(NOT, Sentences.plait("aa", 2));
        due(0, x().count(1));
        due(1, x().count(0));

        says(5, "BAD, FULL (it stays).");
        Sentences.tape("a");
        due(BAD, x().plait(1));
        due(BAD, x().plait(5));
        due(1, x().count(1));
        Sentences.fillPictures();
        Sentences.tape("a");
        due(FULL, x().plait(2));
        due(BAD, x().plait(1));
        due(BAD, x().plait(5));
        due(1, x().count(1));
        due(12, x().count(0));
    }

    private static void of() {
        says(6, "Of a PICTURE: 0 CROSSINGS, 1 WRITHE, 2 FACES, 3 the least, 4 the greatest e (ENDS), 5 whether it is PLAIN, 6 WHICH (NOT).");
        Sentences.picture("");
        Sentences.plait("aaaaaaa", 2);
        Sentences.plait("AAAAAAA", 2);
        Sentences.picture(EAR);
        int[][] want = {{0, 0, 2, 0, 0, 1, NOT}, {7, 7, 9, -40, -12, 0, NOT}, {7, -7, 9, 12, 40, 0, NOT}, {1, 1, 3, 0, 0, 1, 0}};
        for (int p = 0; p < 4; p++) for (int what = 0; what <= 6; what++) due(want[p][what], x().of(p, what));

        says(6, "VOID: BAD.");
        Sentences.picture("");
        for (int what : new int[] {-1, 7, MIN, MAX}) due(VOID, x().of(0, what));
        for (int p : new int[] {-1, 1, 12, MIN, MAX}) for (int what = 0; what <= 6; what++) due(VOID, x().of(p, what));
        Sentences.fillPictures();
        due(0, x().of(11, 0));
        due(VOID, x().of(12, 0));

        says(6, "ENDS: the least, the greatest e with one that is not 0.");
        Sentences.picture("");
        Sentences.picture(TREFOIL);
        Sentences.picture(EIGHT);
        int[][] ends = {{0, 0}, {-16, -4}, {-8, 8}};
        for (int p = 0; p < 3; p++) {
            due(ends[p][0], x().of(p, 3));
            due(ends[p][1], x().of(p, 4));
            for (int e = -60; e < ends[p][0]; e++) due(0, x().sum(p, e));
            for (int e = ends[p][1] + 1; e <= 60; e++) due(0, x().sum(p, e));
            due(1, x().sum(p, ends[p][0]) != 0 && x().sum(p, ends[p][1]) != 0 ? 1 : 0);
        }

        says(6, "PLAIN: as the PLAIN RING (x^0 alone, 1).");
        due(0, Sentences.picture(""));
        due(1, Sentences.picture(SEVEN_EARS));
        due(2, Sentences.picture(TREFOIL));
        due(3, Sentences.picture(EIGHT));
        int[] plain = {1, 1, 0, 0};
        for (int p = 0; p < 4; p++) due(plain[p], x().of(p, 5));

        says(6, "LOOPS: rings that are left (of the PLAIN RING 1).");
        Sentences.picture("");
        due(1, x().sum(0, 0));
        due(0, x().sum(0, 2));
        due(0, x().sum(0, -2));
    }

    private static void which() {
        says(6, "WHICH: the least PICTURE below a told one that is ALIKE; NOT.");
        Sentences.picture(TREFOIL);
        Sentences.picture("");
        Sentences.picture(EAR);
        Sentences.plait("aaa", 2);
        Sentences.picture(COMES_OUT);
        Sentences.picture(EIGHT);
        int[] which = {NOT, NOT, 1, 0, 1, NOT};
        for (int p = 0; p < 6; p++) due(which[p], x().of(p, 6));
        // one that comes later is not below it
        due(6, x().mirror(5));
        due(NOT, x().of(5, 6));
        due(5, x().of(6, 6));
        Sentences.fillPictures();
        due(1, x().of(11, 6));
        due(VOID, x().of(12, 6));
    }

    private static void led() {
        says(7, "LED: VISIT k: 10 times the CROSSING, and 1 for over, 0 for under (what 0); SIGN (1); the VISIT at which the cord is there again (2).");
        Sentences.picture("");
        Sentences.picture("u1-o1");
        Sentences.picture(SEVEN_EARS);
        due(VOID, x().led(0, 0, 0));
        due(0, x().led(1, 0, 0));
        due(1, x().led(1, 1, 0));
        due(-1, x().led(1, 0, 1));
        due(-1, x().led(1, 1, 1));
        due(61, x().led(2, 12, 0));
        due(60, x().led(2, 13, 0));
        due(1, x().led(2, 13, 1));
        due(13, x().led(2, 12, 2));
        due(12, x().led(2, 13, 2));

        says(7, "2 n VISITS along the cord, which comes round: each of a CROSSING, over or under;");
        Sentences.picture(COMES_OUT);
        int[] again = {3, 2, 1, 0};
        for (int k = 0; k < 4; k++) due(again[k], x().led(0, k, 2));

        says(7, "LED: VISIT k of a PICTURE; the next VISIT of the same CROSSING.");
        Sentences.picture(TREFOIL);
        for (int k = 0; k < 6; k++) due((k + 3) % 6, x().led(0, k, 2));

        says(7, "VOID: BAD.");
        Sentences.picture(TREFOIL);
        Sentences.picture("");
        for (int what = 0; what <= 2; what++) {
            for (int k : new int[] {-1, 6, 13, 14, MIN, MAX}) due(VOID, x().led(0, k, what));
            due(VOID, x().led(1, 0, what));
            for (int p : new int[] {-1, 2, 12, MIN, MAX}) due(VOID, x().led(p, 0, what));
        }
        for (int what : new int[] {-1, 3, MIN, MAX}) due(VOID, x().led(0, 0, what));
    }

    private static void sum() {
        says(8, "COEFFICIENT of x^e, e -60 .. 60.");
        Sentences.picture("");
        Sentences.plait("aaaaaaa", 2);
        Sentences.plait("AAAAAAA", 2);
        for (int p = 0; p < 3; p++) {
            for (int e : new int[] {-61, 61, -62, 62, MIN, MAX}) due(VOID, x().sum(p, e));
            for (int e : new int[] {-60, 60, -59, 59, -44, 44, -43, 43, -42, 42, -41, 41, -1, 1}) due(0, x().sum(p, e));
        }
        due(1, x().sum(0, 0));
        due(-1, x().sum(1, -40));
        due(1, x().sum(1, -12));
        due(-1, x().sum(2, 40));
        due(1, x().sum(2, 12));
        due(0, x().sum(2, -40));

        says(8, "COEFFICIENT. VOID: BAD.");
        Sentences.picture("");
        for (int p : new int[] {-1, 1, 12, MIN, MAX}) due(VOID, x().sum(p, 0));
        due(VOID, x().sum(1, 61));
        due(VOID, x().sum(0, 61));
    }

    private static void alike() {
        says(9, "ALIKE: two PICTURES with all COEFFICIENTS alike.");
        Sentences.picture(TREFOIL);
        Sentences.plait("aaaaa", 2);
        Sentences.picture(TREFOIL);
        x().mirror(0);
        due(1, x().alike(2));
        due(1, x().alike(200));
        due(0, x().alike(1));
        due(0, x().alike(3));
        // alike at one end only is not alike
        due(-4, x().of(0, 4));
        due(1, x().alike(0));

        says(9, "Whether two PICTURES are ALIKE (pq: 100 times the one and the other): 1, 0. BAD.");
        Sentences.picture("");
        due(1, x().alike(0));
        for (int pq : new int[] {1, 99, 100, 101, 199, 200, 10000, -1, -100, -99, MIN, MAX}) due(BAD, x().alike(pq));
        Sentences.fillPictures();
        due(1, x().alike(1111));
        for (int pq : new int[] {12, 1200, 1112, 1211, 1199, 11100}) due(BAD, x().alike(pq));
    }

    private static void mirror() {
        says(10, "MIRROR: over and under change about everywhere, all SIGNS too.");
        Sentences.picture("");
        Sentences.picture(SEVEN_EARS);
        due(2, x().mirror(0));
        due(0, x().of(2, 0));
        due(3, x().mirror(1));
        for (int k = 0; k < 14; k++) {
            due(x().led(1, k, 0) ^ 1, x().led(3, k, 0));
            due(-1, x().led(3, k, 1));
        }
        due(7, x().of(1, 1));
        due(-7, x().of(3, 1));

        says(10, "MIRROR of a PICTURE: the new one's number. BAD, FULL.");
        Sentences.picture(TREFOIL);
        for (int p : new int[] {-1, 1, 12, MIN, MAX}) due(BAD, x().mirror(p));
        for (int p = 1; p <= 11; p++) due(p, x().mirror(p - 1));
        due(FULL, x().mirror(0));
        due(FULL, x().mirror(11));
        due(BAD, x().mirror(12));
        due(BAD, x().mirror(-1));
        due(12, x().count(0));
    }

    private static void turn() {
        says(11, "TURNED about: VISITS the other way round (SIGNS stay), numbered anew.");
        Sentences.picture("");
        Sentences.picture("o1+u1u2-o2");
        due(2, x().turn(0));
        due(0, x().of(2, 0));
        due(3, x().turn(1));
        Sentences.hasVisits(3, 1, 0, 10, 11);
        due(-1, x().led(3, 0, 1));
        due(1, x().led(3, 2, 1));

        says(11, "Crossings are numbered as they are first met.");
        Sentences.picture(SEVEN_EARS);
        due(1, x().turn(0));
        Sentences.hasVisits(1, 0, 1, 10, 11, 20, 21, 30, 31, 40, 41, 50, 51, 60, 61);

        says(11, "TURNED about: the new one's number. BAD, FULL.");
        Sentences.picture(TREFOIL);
        for (int p : new int[] {-1, 1, 12, MIN, MAX}) due(BAD, x().turn(p));
        for (int p = 1; p <= 11; p++) due(p, x().turn(p - 1));
        due(FULL, x().turn(0));
        due(FULL, x().turn(11));
        due(BAD, x().turn(12));
        due(BAD, x().turn(-1));
        due(12, x().count(0));
    }

    private static void join() {
        says(12, "JOINED: VISITS of one, then of another one (CROSSINGS together at most 7, else BIG), numbered on.");
        Sentences.picture("");
        Sentences.picture(EAR);
        Sentences.picture(TREFOIL);
        Sentences.picture(EIGHT);
        Sentences.picture(SEVEN_EARS);
        due(5, x().join(203));
        due(7, x().of(5, 0));
        Sentences.hasVisits(5, 1, 10, 21, 0, 11, 20, 31, 40, 51, 30, 61, 50, 41, 60);
        due(6, x().join(4));
        due(7, x().of(6, 0));
        due(7, x().join(400));
        due(7, x().of(7, 0));
        due(8, x().join(0));
        due(0, x().of(8, 0));
        due(9, x().join(101));
        due(2, x().of(9, 0));
        for (int pq : new int[] {303, 401, 104, 404}) due(BIG, x().join(pq));
        due(10, x().count(0));

        says(12, "JOINED (pq): the new one's number. BAD, FULL, BIG.");
        Sentences.picture(EIGHT);
        for (int pq : new int[] {1, 100, 99, 10000, -1, -100, MIN, MAX}) due(BAD, x().join(pq));
        due(BIG, x().join(0));
        Sentences.fillPictures();
        due(FULL, x().join(0));
        due(FULL, x().join(1111));
        for (int pq : new int[] {12, 1200, 1112, -1}) due(BAD, x().join(pq));
        Sentences.anew();
        Sentences.picture("");
        for (int p = 1; p <= 11; p++) due(p, x().join(100 * (p - 1)));
        due(FULL, x().join(0));
    }

    private PictureEdges() { }
}
