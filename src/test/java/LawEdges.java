/** Promises 20 to 23: lots, laws told as texts, shakes, the least length. */
final class LawEdges {
    private static final int MIN = Integer.MIN_VALUE, MAX = Integer.MAX_VALUE;
    private static final int BAD = -1, NOT = -2;
    private static final String GRAMMAR_OF_LINES = "LINES, one or more, parted by ; . LINE: E, or E ? E (what counts if the first is not 0).";
    /** Of a shake with 2 strands: 99 is the length, 50 the box, 9 the stiffness. */
    private static final int NB = 9950, SM = 92;

    private static CordPocket x() { return Sentences.x; }

    private static void says(int promise, String sentence) { Sentences.says(promise, sentence); }

    private static void due(long want, long got) { Sentences.due(want, got); }

    static void run() {
        lots();
        law();
        texts();
        names();
        worth();
        lines();
        shake();
        lettersOfShakes();
        least();
    }

    private static void lots() {
        says(20, "LOTS: all words of L letters (1 .. 6; with m 4 at most 5): (2 m less 2) to the power of L: how many are one cord; of these how many are PLAIN; how many are ALIKE a told PICTURE.");
        Sentences.picture("");
        Sentences.plait("aaa", 2);
        Sentences.plait("aaaaa", 2);
        int[][] want = {{21, 2, 2, 0, 0}, {22, 0, 0, 0, 0}, {23, 8, 6, 1, 0}, {25, 32, 20, 5, 1}, {26, 0, 0, 0, 0},
            {31, 0, 0, 0, 0}, {32, 8, 8, 0, 0}, {36, 2688, 1584, -1, -1}, {41, 0, 0, 0, 0}, {43, 48, 48, 0, 0},
            {44, 0, 0, 0, 0}, {45, 2560, 1920, -1, -1}};
        for (int[] w : want) {
            due(w[1], x().lots(w[0], -2));
            due(w[2], x().lots(w[0], -1));
            if (w[3] < 0) continue;
            due(w[2], x().lots(w[0], 0));
            due(w[3], x().lots(w[0], 1));
            due(w[4], x().lots(w[0], 2));
        }

        says(20, "how many are ALIKE a told PICTURE.");
        due(0, Sentences.plait("aaa", 2));
        due(1, Sentences.plait("cba", 4));
        due(1, x().lots(23, 0));
        due(6, x().lots(23, 1));
        due(8, x().lots(23, -2));
        due(0, x().lots(21, 0));
        due(2, x().lots(21, 1));

        says(20, "LOTS of m STRANDS and L letters (ml: 10 m and L): one cord (what -2), PLAIN (-1), ALIKE PICTURE what. BAD.");
        for (int ml : new int[] {20, 27, 29, 30, 37, 40, 46, 47, 10, 11, 16, 19, 50, 51, 0, 1, -1, -21, -22, 121, 200, 210, MIN, MAX}) {
            for (int what = -2; what <= -1; what++) due(BAD, x().lots(ml, what));
        }
        for (int what : new int[] {-3, 0, 12, MIN, MAX}) due(BAD, x().lots(21, what));
        Sentences.picture("");
        due(2, x().lots(21, 0));
        due(BAD, x().lots(21, 1));
        Sentences.fillPictures();
        due(2, x().lots(21, 11));
        due(BAD, x().lots(21, 12));
        due(BAD, x().lots(20, 11));
    }

    private static void answers(int want, String... texts) {
        for (String text : texts) due(want, Sentences.law(text));
    }

    private static void law() {
        says(21, "THE TAPE becomes THE LAW: 1; -100 less its FAULT; THE TAPE is empty then.");
        due(1, Sentences.law("1"));
        due(0, x().count(1));
        due(0, x().shake(0, 2, 7, 11));
        due(-101, Sentences.law("1x"));
        due(0, x().count(1));
        due(-100, x().law());
        due(1, Sentences.law("2"));
        due(1, x().shake(0, 2, 7, 11));

        says(21, "A LAW is a TEXT (THE TAPE, 120 bytes at most for it):");
        Sentences.tape("1+".repeat(59) + "10");
        due(120, x().count(1));
        due(-3, x().feed(1, '0'));
        due(1, x().law());
        // 59 and 10 are odd together: 6 at most
        due(1, x().shake(0, 2, 7, 11));
        Sentences.anew();
        due(1, Sentences.law("0*".repeat(59) + "1"));
        due(-219, Sentences.law("0*".repeat(59) + "1x"));
        due(-219, Sentences.law("0*".repeat(59) + "1)"));

        says(21, "FAULT: the place (from 0) of the first byte with which no TEXT goes on; the length, if it ends too early.");
        answers(-100, "", "x", ")", "x1", "" + (char) ('1' | 128));
        answers(-101, "1x", "1)", "nn", "(", "!", "-", "1(", "1!");
        answers(-102, "1+", "1?", "1;", "(1", "(1;1)", "(1?1)", "1+x", "1;x", "1?x");
        answers(-103, "(1)1", "1+1x", "1?1?", "1<1<", "1+(", "(1+");
        answers(1, "1", "(1)", "1;1", "1?1", "1?1;1");
    }

    private static void texts() {
        says(21, GRAMMAR_OF_LINES);
        answers(-100, "", ";", ";1", "?", "?1");
        answers(-102, "1;", "1;;1", "1;?1", "1?", "1??1", "1?;1");
        answers(-103, "1?1?1");
        answers(-104, "1;1;", "1?1;");
        answers(1, "1", "1;1", "1;1?1;1", "1;".repeat(59) + "1");

        says(21, "E = A { | A }. A = B { & B }. B = S, or S < S, S = S, S > S. S = P { + P, - P }. P = O { * O, / O, % O }.");
        for (char c : "|&<=>+*/%".toCharArray()) {
            answers(-100, c + "1");
            answers(-102, "1" + c, "1" + c + c + "1", "1" + c + ";1", "1" + c + ")");
        }
        Sentences.anew();
        for (char c : "|&+*/%".toCharArray()) answers(1, "1" + c + "1" + c + "1");
        for (String two : new String[] {"<<", "<=", "<>", "==", "=<", "=>", ">>", ">=", "><"}) {
            answers(-103, "1" + two.charAt(0) + "1" + two.charAt(1) + "1");
            answers(-102, "1" + two + "1");
            answers(1, "(1" + two.charAt(0) + "1)" + two.charAt(1) + "1");
        }
        Sentences.anew();
        answers(1, "1<1&1<1", "1<1|1=1", "1+1<1+1", "1*1=1%1", "1--1", "1*-1", "1<!1", "1-1-1");
        answers(-101, "1^1", "1~", "1,1", "1 ");

        says(21, "O = a number (1 to 4 digits), a NAME, ! O, - O, ( E ). No blanks.");
        answers(1, "0", "12", "123", "1234", "9999", "0000", "n", "b", "s", "z", "m", "!1", "-1", "(1)", "!-(1)", "-!n", "(1|n)");
        answers(-104, "12345", "00000", "1234n");
        answers(-109, "1234+12345");
        answers(-101, "1n", "n1", "n(", "(", "()", "!", "-", "1!");
        Sentences.anew();
        answers(-100, "/", ":", "a", "o", "c", "l", "t", "y", "N", "B", "S", "Z", "M", "{", "x", " 1", "\n");
        answers(-101, "1 ", "1 +1", "n ;n", "( 1)", "- 1", "! 1");
        answers(-102, "1+ 1", "1; 1", "(1 )", "(n", "1?\t1");
        answers(-103, "(1))", "(1)1", "(1)n", "(1)(1)");

        says(21, "At most 6 of ( ! - ahead of an O are open at once.");
        answers(1, "!!!!!!1", "------1", "((((((1))))))", "(!-(!-n))", "!!!!!!1+!!!!!!1", "((((((1))))))+((((((1))))))");
        answers(-106, "!!!!!!!1", "-------1", "(((((((1)))))))", "(!-(!-!1))", "!!!!!!(1)", "((((((-1))))))", "------!1");
        // what is closed, or had its O, is open no more
        answers(1, "(1)+(1)+(1)+(1)+(1)+(1)+(1)+(1)", "!1+!1+!1+!1+!1+!1+!1+!1", "((((((1)+1)+1)+1)+1)+1)", "(((((!1+-1*(1))))))");
        answers(1, "-1-1-1-1-1-1-1-1-1-1");
        Sentences.anew();
        // a - between two is not ahead of an O
        answers(1, "((((((1-1))))))", "------1-1");
        answers(-108, "((((((1--1))))))");
        answers(-109, "(((((!1+!-1)))))");
        answers(1, "1;".repeat(10) + "!!!!!!1", "(1)?((((((1))))));((((((1))))))");
        answers(-112, "1?1;1;!!!!!!!1");
    }

    /** Whether the law gives an odd number with these, which is told by a shake of 2 strands, or in all 4 of them. */
    private static boolean isOdd(String text, int nb, int sm, int seed) {
        due(1, Sentences.law(text));
        int several = x().shake(nb, sm, seed, 41);
        due(1, several == 0 || several == 4 ? 1 : 0);
        return several == 0;
    }

    private static void gives(int want, String text) {
        due(1, isOdd("(" + text + ")=" + (want < 0 ? "0-" + -want : "" + want), NB, SM, 5) ? 1 : 0);
    }

    private static void allGive(int want, String... texts) {
        for (String text : texts) gives(want, text);
    }

    private static void names() {
        says(21, "NAMES: n length (0 .. 99), b box (0 .. 99), s stiffness (0 .. 9), z a draw (0 .. 99), m STRANDS.");
        due(1, isOdd("n=0&b=99&s=9", 99, 92, 1) ? 1 : 0);
        due(1, isOdd("n=99&b=0&s=0", 9900, 2, 1) ? 1 : 0);
        due(1, isOdd("n=99&b=99", 9999, 12, 1) ? 1 : 0);
        due(1, isOdd("n=0&b=0&s=0&m=2", 0, 2, 1) ? 1 : 0);
        due(1, isOdd("n=1&b=2&s=3", 102, 32, 1) ? 1 : 0);
        // with more strands one letter never makes one cord: with 3 for a right one, two are
        for (int m = 3; m <= 4; m++) {
            due(1, Sentences.law("(m=" + m + ")*" + (m - 1)));
            due(1, x().shake(0, m, 0, 501) < 50 ? 1 : 0);
            due(50, x().shake(0, 7 - m, 0, 501));
        }
        due(0, isOdd("z<0|z>99", 0, 2, 3) ? 1 : 0);
        Sentences.anew();
        for (int wanted : new int[] {0, 99, 50}) {
            int seed = seedWithDraw(wanted);
            due(1, Sentences.law("z=" + wanted));
            due(0, x().shake(0, 2, seed, 11));
            due(1, Sentences.law("z=" + (wanted + 1)));
            due(1, x().shake(0, 2, seed, 11));
        }
    }

    private static int next(int z) {
        return z * 1103515245 + 12345;
    }

    private static int seedWithDraw(int wanted) {
        int seed = -5;
        while ((next(seed) >>> 8) % 100 != wanted) seed--;
        return seed;
    }

    private static void worth() {
        says(21, "Ints that wrap; / and % toward 0, by 0 they give 0;");
        allGive(1, "2*1024*1024*1024<0", "2*1024*1024*1024-1>0", "-(2*1024*1024*1024)<0", "0-2*1024*1024*1024<0", "-1+2*1024*1024*1024>0");
        gives(1, "-2*1024*1024*1024/-1<0");
        int wrapped = 9999 * 9999 * 9999;
        gives(wrapped % 9973, "9999*9999*9999%9973");
        gives(0, "4*1024*1024*1024");
        gives(0, "-2*1024*1024*1024%-1");
        allGive(3, "7/2", "-7/-2", "0-7/-2");
        allGive(-3, "-7/2", "7/-2", "(0-7)/2");
        Sentences.anew();
        allGive(1, "7%2", "7%-2", "7%3");
        allGive(-1, "-7%2", "-7%-2");
        allGive(0, "7/0", "7%0", "-7/0", "0/0", "0%0", "7/(n-99)", "7%(n-99)", "1/2", "-1/2", "0/7", "0%7");
        allGive(7, "7%9", "7/1", "7/(1-2)*-1", "7/0+7");

        says(21, "| & < = > ! give 1, 0; all is worked out.");
        allGive(1, "5|0", "0|5", "5|-5", "5&-5", "1|0&0", "1<2", "-1<0", "2=2", "2>1", "0>-1", "!0", "!!7");
        allGive(0, "0|0", "5&0", "0&5", "0&0", "2<2", "3<2", "2=3", "2>2", "1>2", "!7", "!-1", "!!0");
        Sentences.anew();
        allGive(1, "0|0|1", "1&2&3", "0|1&1", "5+0|0", "2>1&1<2");
        allGive(0, "1&2&0", "0|0&1", "1&0|0", "0&7/0", "7/0|0");
        allGive(1, "1|7/0", "1|7/0&0");
        gives(2, "(5|0)+(7&7)");
    }

    private static void lines() {
        says(21, "The first LINE without a first E, or whose first E is not 0, counts; none: 0.");
        String[] odd = {"1", "1?1", "1;0", "1;1?0", "0?0;1", "1?1;0", "0?2;1?1;2", "0?2;1;2", "-1?1;2", "n?1;2", "0?2;0?2;7-6", "5?3;0", "0?0;n-99?2;b?5"};
        String[] even = {"0", "2", "0?1", "0?1;0?1", "1?2;1", "2;1", "0?1;2;1", "0?1;3?4;5", "n-99?1", "0?1;0?3;0?5", "1?0;1", "n-99?1;b-50?1"};
        for (String text : odd) due(1, isOdd(text, NB, SM, 9) ? 1 : 0);
        Sentences.anew();
        for (String text : even) due(0, isOdd(text, NB, SM, 9) ? 1 : 0);
    }

    private static void shake() {
        says(22, "SHAKES (nb: 100 length and box; sm: 10 stiffness and STRANDS; n times): OFTEN (what 0), SEVERAL (1). BAD. tn: 10 n and what.");
        for (int nb : new int[] {-1, 10000, 10001, -100, MIN, MAX}) due(BAD, x().shake(nb, 2, 0, 10));
        for (int nb : new int[] {0, 99, 100, 9900, 9999}) due(1, x().shake(nb, 2, 0, 11));
        for (int sm : new int[] {0, 1, 5, 9, 10, 11, 15, 91, 95, 99, 100, 102, 104, 112, -1, -2, -8, MIN, MAX}) due(BAD, x().shake(0, sm, 0, 10));
        for (int sm : new int[] {2, 3, 4, 12, 92, 93, 94}) due(1, x().shake(0, sm, 0, 11));
        for (int tn : new int[] {0, 1, 9, -1, -9, -10, -11, 12, 13, 19, 502, 509, 510, 511, 520, MIN, MAX}) due(BAD, x().shake(0, 2, 0, tn));
        due(0, x().shake(0, 2, 0, 10));
        due(50, x().shake(0, 2, 0, 501));
        due(0, x().shake(0, 2, 0, 500));

        says(22, "SHAKES: n times (1 .. 50) by a SEED: z = z * 1103515245 + 12345 (an int; SEED at first) ahead of each draw: draw (z >>> 8) % 100;");
        due(1, Sentences.law("z%2"));
        for (int seed : new int[] {0, 1, -1, 77, MIN, MAX}) {
            for (int times : new int[] {1, 2, 49, 50}) {
                int z = seed;
                int several = 0;
                for (int i = 0; i < times; i++) {
                    z = next(z);
                    if ((z >>> 8) % 100 % 2 == 0) several++;
                    else z = next(z);
                }
                due(several, x().shake(0, 2, seed, 10 * times + 1));
                // a shake begins by its SEED, not where the latest one ended
                due(several, x().shake(0, 2, seed, 10 * times + 1));
            }
        }

        says(22, "SEVERAL: how many are several cords.");
        due(50, x().shake(0, 2, 0, 501));
        due(1, Sentences.law("1"));
        due(0, x().shake(0, 2, 0, 501));
        due(50, x().shake(0, 3, 0, 501));
    }

    private static void lettersOfShakes() {
        says(22, "L: what THE LAW gives, held within 0 .. 6 (without one: 0);");
        due(50, x().shake(0, 2, 0, 501));
        String[] even = {"0", "2", "6", "7", "8", "9999", "-1", "-3", "-7", "0-9999", "2*1024*1024*1024+1", "2*1024*1024*1024-1"};
        for (String text : even) due(0, isOdd(text, 0, 2, 1) ? 1 : 0);
        for (String text : new String[] {"1", "3", "5"}) due(1, isOdd(text, 0, 2, 1) ? 1 : 0);
        Sentences.anew();
        // 7 is held at 6: as often as with 6, all of 3 strands
        due(1, Sentences.law("6"));
        int six = x().shake(0, 3, 4, 500), severalOfSix = x().shake(0, 3, 4, 501);
        due(1, Sentences.law("7"));
        due(six, x().shake(0, 3, 4, 500));
        due(severalOfSix, x().shake(0, 3, 4, 501));
        due(1, Sentences.law("5"));
        due(1, x().shake(0, 3, 4, 501) != severalOfSix ? 1 : 0);

        says(22, "then L letters: (z >>> 8) % (2 m less 2): a, A, b, B, c, C in this order.");
        for (int m = 2; m <= 4; m++) {
            due(1, Sentences.law("" + (m - 1)));
            for (int seed : new int[] {0, -9, MAX}) due(severalOfShortest(m, seed), x().shake(0, m, seed, 501));
        }
        // with 2 strands knotted are those of 3 letters that are all a, or all A
        due(1, Sentences.law("3"));
        for (int seed : new int[] {0, 6, MIN}) {
            for (int times : new int[] {1, 20, 49, 50}) due(knottedOfThree(seed, times), x().shake(0, 2, seed, 10 * times));
        }

        says(22, "It is KNOTTED, if it is one cord and not PLAIN. OFTEN: how many are.");
        due(0, x().shake(0, 2, 0, 500));
        due(1, Sentences.law("1"));
        due(0, x().shake(0, 2, 0, 500));
        due(0, x().shake(0, 2, 0, 501));
        due(1, Sentences.law("4"));
        due(0, x().shake(0, 2, 0, 500));
        due(50, x().shake(0, 2, 0, 501));
    }

    /** How many of so many shakes of 2 strands and 3 letters are knotted. */
    private static int knottedOfThree(int seed, int times) {
        int z = seed;
        int knotted = 0;
        for (int i = 0; i < times; i++) {
            int turns = 0;
            z = next(z);
            for (int k = 0; k < 3; k++) {
                z = next(z);
                turns += (z >>> 8) % 2 == 0 ? 1 : -1;
            }
            if (turns == 3 || turns == -3) knotted++;
        }
        return knotted;
    }

    /** A seed whose shake of that number is knotted. */
    private static int seedWithKnotted(int number) {
        int seed = 1;
        while (knottedOfThree(seed, number) == knottedOfThree(seed, number - 1)) seed++;
        return seed;
    }

    /** With m strands and m less 1 letters it is one cord if the letters are each another one, small or not. */
    private static int severalOfShortest(int m, int seed) {
        int z = seed;
        int several = 0;
        for (int i = 0; i < 50; i++) {
            z = next(z);
            int met = 0;
            for (int k = 0; k < m - 1; k++) {
                z = next(z);
                met |= 1 << (z >>> 8) % (2 * m - 2) / 2;
            }
            if (met != (1 << m - 1) - 1) several++;
        }
        return several;
    }

    private static void least() {
        says(23, "LEAST length (0 .. 99) at which of 20 SHAKES by that SEED v (1 .. 20) or more are KNOTTED; NOT.");
        due(NOT, x().least(0, 2, 0, 1));
        due(1, Sentences.law("3"));
        int knotted = x().shake(0, 2, 9, 200);
        due(1, knotted > 0 && knotted < 20 ? 1 : 0);
        for (int v = 1; v <= 20; v++) due(v <= knotted ? 0 : NOT, x().least(0, 2, 9, v));
        // the 20th shake is one of them, the 21st is not
        for (int last = 20; last <= 21; last++) {
            int seed = seedWithKnotted(last);
            due(0, x().least(0, 2, seed, knottedOfThree(seed, 20)));
            due(NOT, x().least(0, 2, seed, knottedOfThree(seed, 20) + 1));
        }
        due(1, Sentences.law("n=99?3"));
        due(99, x().least(0, 2, 9, knotted));
        due(NOT, x().least(0, 2, 9, knotted + 1));
        due(1, Sentences.law("n=1|n>3?3"));
        due(1, x().least(0, 2, 9, 1));
        due(1, Sentences.law("n>99?3"));
        due(NOT, x().least(0, 2, 9, 1));

        says(23, "LEAST length (box, sm, SEED, v). BAD; NOT.");
        due(1, Sentences.law("n=7&b=99&s=9?3"));
        due(7, x().least(99, 92, 9, 1));
        due(NOT, x().least(98, 92, 9, 1));
        due(NOT, x().least(99, 82, 9, 1));
        for (int box : new int[] {-1, 100, MIN, MAX}) due(BAD, x().least(box, 92, 9, 1));
        for (int sm : new int[] {0, 1, 5, 91, 95, 99, 102, 104, -1, -8, MIN, MAX}) due(BAD, x().least(99, sm, 9, 1));
        for (int v : new int[] {0, -1, 21, 22, MIN, MAX}) due(BAD, x().least(99, 92, 9, v));
        for (int sm : new int[] {2, 3, 4, 93, 94}) due(NOT, x().least(0, sm, 9, 20));
        for (int seed : new int[] {MIN, MAX}) due(NOT, x().least(0, 2, seed, 1));
    }

    private LawEdges() { }
}
