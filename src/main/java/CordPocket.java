import java.util.Arrays;

/** A cord in a pocket: its pictures, their sums and moves, plaits, laws, shelves and lies. */
public final class CordPocket {
    public static final int BAD = -1, NOT = -2, FULL = -3, BIG = -4, STATE = -5, VOID = -2000000000;

    private static final int NOTHING_THERE = -11, OTHER_KIND = -12, NO_PLACE = -13, BELOW_ZERO = -14;
    /** What a fault's place is taken from, and what says that there is none. */
    private static final int FAULTS = -100, SOUND = -1;
    private static final int MOST_PICTURES = 12, MOST_CROSSINGS = 7, MOST_VISITS = 14, MOST_WAYS = 128;
    private static final int MOST_BYTES = 120, MOST_CHANGES = 40, MOST_LIES = 50, MOST_LETTERS = 6;
    /** With 7 crossings no power of x leaves -42 .. 42, and only even ones come; they lie in a row by halves. */
    private static final int FARTHEST = 42, SPAN = 43, NO_POWER = 21, FARTHEST_TOLD = 60;
    private static final long NO_ELEMENT = -9223372036854775808L;

    private final byte[] tape = new byte[MOST_BYTES];
    private int taped;
    private final Picture[] pictures = new Picture[MOST_PICTURES];
    private int drawn;
    /** Two pictures to make others in; what is made is copied then. */
    private final Picture made = new Picture();
    private final Picture spare = new Picture();
    private final Sums sums = new Sums();
    private final int[] word = new int[MOST_CROSSINGS];
    private final Unlike unlike = new Unlike();
    private final Shaker shaker = new Shaker();
    private final Changes changes = new Changes();
    private final Lies lies = new Lies();
    private final Shelf[] shelves = new Shelf[6];

    public CordPocket() {
        for (int i = 0; i < pictures.length; i++) pictures[i] = new Picture();
        for (int i = 0; i < shelves.length; i++) shelves[i] = new Shelf();
    }

    // ---- pictures

    public int feed(int n, int v) {
        if (n < 1 || n > 4) return BAD;
        if (taped > MOST_BYTES - n) return FULL;
        for (int i = 0; i < n; i++) tape[taped + i] = (byte) (v >> 8 * i);
        taped += n;
        return taped;
    }

    public int picture() {
        if (drawn >= MOST_PICTURES) return FULL;
        int fault = made.read(tape, taped);
        taped = 0;
        if (fault != SOUND) return FAULTS - fault;
        return made.canBeDrawn() ? addMade() : NOT;
    }

    public int fromRow(int shelf, int i, int n) {
        if (!isShelf(shelf) || n < 0 || n > MOST_CROSSINGS) return BAD;
        if (drawn >= MOST_PICTURES) return FULL;
        Shelf from = shelves[shelf];
        if (from.holds == Shelf.NOTHING) return NOTHING_THERE;
        if (!from.isRowOf(Shelf.BYTES)) return OTHER_KIND;
        if (!from.hasPlaces(i, 2 * n)) return NO_PLACE;
        return made.readRow(from.elements, i, 2 * n) && made.canBeDrawn() ? addMade() : NOT;
    }

    public int plait(int m) {
        if (m < 2 || m > 4) return BAD;
        if (drawn >= MOST_PICTURES) return FULL;
        int letters = taped;
        int fault = faultOfWord(m);
        taped = 0;
        if (fault != SOUND) return FAULTS - fault;
        return made.beClosed(word, letters, m) ? addMade() : NOT;
    }

    public int of(int picture, int what) {
        if (!isPicture(picture)) return VOID;
        Picture told = pictures[picture];
        switch (what) {
            case 0: return told.crossings;
            case 1: return told.writhe();
            case 2: return told.faces();
            case 3: return leastPower(sumOf(told));
            case 4: return greatestPower(sumOf(told));
            case 5: return isPlain(sumOf(told)) ? 1 : 0;
            case 6: return which(picture);
            default: return VOID;
        }
    }

    public int led(int picture, int k, int what) {
        if (!isPicture(picture)) return VOID;
        Picture told = pictures[picture];
        if (k < 0 || k >= told.visits) return VOID;
        int crossing = told.at[k];
        switch (what) {
            case 0: return 10 * crossing + (told.isOver(k) ? 1 : 0);
            case 1: return told.isPlus(crossing) ? 1 : -1;
            case 2: return told.again(k);
            default: return VOID;
        }
    }

    public int sum(int picture, int e) {
        if (!isPicture(picture) || e < -FARTHEST_TOLD || e > FARTHEST_TOLD) return VOID;
        if (e < -FARTHEST || e > FARTHEST || e % 2 != 0) return 0;
        return sumOf(pictures[picture])[(e + FARTHEST) / 2];
    }

    public int alike(int pq) {
        if (!arePictures(pq)) return BAD;
        return areAlike(sumOf(pictures[pq / 100]), sumOf(pictures[pq % 100])) ? 1 : 0;
    }

    public int mirror(int picture) {
        if (!isPicture(picture)) return BAD;
        if (drawn >= MOST_PICTURES) return FULL;
        made.beMirrorOf(pictures[picture]);
        return addMade();
    }

    public int turn(int picture) {
        if (!isPicture(picture)) return BAD;
        if (drawn >= MOST_PICTURES) return FULL;
        made.beTurned(pictures[picture]);
        return addMade();
    }

    public int join(int pq) {
        if (!arePictures(pq)) return BAD;
        if (drawn >= MOST_PICTURES) return FULL;
        Picture one = pictures[pq / 100];
        Picture other = pictures[pq % 100];
        if (one.crossings + other.crossings > MOST_CROSSINGS) return BIG;
        made.beJoined(one, other);
        return addMade();
    }

    // ---- changes, moves

    public int change(int picture, int crossing) {
        if (!isPicture(picture)) return VOID;
        Picture told = pictures[picture];
        if (crossing < 0 || crossing >= told.crossings) return VOID;
        told.changeAt(crossing);
        changes.add(picture, crossing);
        return told.writhe();
    }

    public int pulls(int picture, int what) {
        if (!isPicture(picture) || what < 0 || what > 1) return BAD;
        int bits = fewestChanges(pictures[picture]);
        return what == 0 ? Integer.bitCount(bits) : bits;
    }

    public int moves(int picture, int what) {
        if (!isPicture(picture) || what < 0 || what > 1) return BAD;
        int gone = pictures[picture].goneByMove();
        if (what == 0) return Integer.bitCount(gone);
        return gone == 0 ? NOT : crossingsAsDigits(gone);
    }

    public int simpler(int picture, int what) {
        if (!isPicture(picture) || what < 0 || what > 1) return BAD;
        int done = makeSimpler(pictures[picture]);
        return what == 0 ? done : made.crossings;
    }

    public int simplify(int picture) {
        if (!isPicture(picture)) return BAD;
        makeSimpler(pictures[picture]);
        pictures[picture].copy(made);
        changes.end();
        return made.crossings;
    }

    public int parted(int picture, int what) {
        if (!isPicture(picture) || what < 0 || what > 1) return BAD;
        Picture told = pictures[picture];
        for (int length = 2; length < told.visits; length++) {
            int first = told.firstOfPart(length);
            if (first >= 0) return what == 0 ? length : first;
        }
        return NOT;
    }

    public int hidden(int picture, int crossings, int what) {
        if (!isPicture(picture) || what < 0 || what > 1) return BAD;
        Picture told = pictures[picture];
        if (crossings < 0 || crossings >= told.ways()) return BAD;
        sums.cut(told);
        return what == 0 ? plainAmong(told, crossings) : unlikeAmong(told, crossings);
    }

    // ---- lots, shakes

    public int lots(int ml, int what) {
        if (ml < 0 || what < -2 || what >= drawn) return BAD;
        int strands = ml / 10;
        int letters = ml % 10;
        if (strands < 2 || strands > 4 || letters < 1) return BAD;
        if (letters > (strands == 4 ? MOST_LETTERS - 1 : MOST_LETTERS)) return BAD;
        int count = 0;
        boolean more = firstWord(letters);
        for (int i = 0; i < 1000 && more; i++) {
            if (made.beClosed(word, letters, strands)) count += countWays(what);
            more = nextWord(letters, strands);
        }
        return count;
    }

    public int law() {
        int fault = shaker.law.fault(tape, taped);
        if (fault == SOUND) shaker.law.become(tape, taped);
        taped = 0;
        return fault == SOUND ? 1 : FAULTS - fault;
    }

    public int shake(int nb, int sm, int seed, int tn) {
        if (nb < 0 || nb > 9999 || !isStiffAndStrands(sm) || tn < 0) return BAD;
        int times = tn / 10;
        int what = tn % 10;
        if (times < 1 || times > 50 || what > 1) return BAD;
        shaker.shakeAll(times, nb / 100, nb % 100, sm, seed);
        return what == 0 ? shaker.knotted : shaker.several;
    }

    public int least(int box, int sm, int seed, int v) {
        if (box < 0 || box > 99 || !isStiffAndStrands(sm) || v < 1 || v > 20) return BAD;
        for (int length = 0; length <= 99; length++) {
            shaker.shakeAll(20, length, box, sm, seed);
            if (shaker.knotted >= v) return length;
        }
        return NOT;
    }

    public int undo() {
        if (changes.undoable == 0) return STATE;
        changeAgain(changes.takeBack());
        return changes.undoable;
    }

    public int redo() {
        if (changes.redoable == 0) return STATE;
        changeAgain(changes.takeUp());
        return changes.redoable;
    }

    // ---- acts, shelves

    public int body(int kind) {
        if (!isKind(kind)) return BAD;
        return lies.kept >= MOST_LIES ? FULL : lies.keepOne(kind);
    }

    public int act(int body, int act, int x) {
        return lies.begin(body, act, x);
    }

    public int trace(int i) {
        return i < 0 || i >= lies.traced() ? BAD : lies.trace[i];
    }

    public int keep(int shelf, int body) {
        if (!isShelf(shelf) || body < -1 || body >= lies.kept) return BAD;
        shelves[shelf].holdLie(body);
        return 1;
    }

    public int row(int shelf, int sort, int n) {
        if (!isShelf(shelf) || sort < Shelf.BYTES || sort > Shelf.BOOLEANS || n > Shelf.MOST) return BAD;
        if (n < 0) return BELOW_ZERO;
        shelves[shelf].holdRow(sort, n);
        return 1;
    }

    public int put(int shelf, int i, long v) {
        int refusal = refusalOfElement(shelf, i);
        if (refusal != 0) return refusal;
        shelves[shelf].putIn(i, v);
        return 1;
    }

    public long element(int shelf, int i) {
        return refusalOfElement(shelf, i) != 0 ? NO_ELEMENT : shelves[shelf].elements[i];
    }

    public int shift(int shelf, int i, int other, int j, int n) {
        if (!isShelf(shelf) || !isShelf(other)) return BAD;
        Shelf from = shelves[shelf];
        Shelf to = shelves[other];
        if (from.holds == Shelf.NOTHING || to.holds == Shelf.NOTHING) return NOTHING_THERE;
        if (from.holds != Shelf.ROW || !to.isRowOf(from.sort)) return OTHER_KIND;
        if (!from.hasPlaces(i, n) || !to.hasPlaces(j, n)) return NO_PLACE;
        System.arraycopy(from.elements, i, to.elements, j, n);
        return n;
    }

    public int taken(int shelf, int k) {
        if (!isShelf(shelf) || !isKind(k)) return BAD;
        Shelf told = shelves[shelf];
        if (told.holds == Shelf.NOTHING) return NOTHING_THERE;
        if (told.holds != Shelf.LIE) return OTHER_KIND;
        int kind = lies.kindOf(told.body);
        return Lies.isUnder(kind, k) ? kind : OTHER_KIND;
    }

    public int count(int what) {
        switch (what) {
            case 0: return drawn;
            case 1: return taped;
            case 2: return changes.undoable;
            case 3: return lies.kept;
            case 4: return lies.ran;
            default: return BAD;
        }
    }

    // ---- what the calls are made of

    private boolean isPicture(int picture) {
        return picture >= 0 && picture < drawn;
    }

    private boolean arePictures(int pq) {
        return pq >= 0 && isPicture(pq / 100) && isPicture(pq % 100);
    }

    private static boolean isShelf(int shelf) {
        return shelf >= 0 && shelf <= 5;
    }

    private static boolean isKind(int kind) {
        return kind >= 0 && kind < Lies.KINDS;
    }

    private static boolean isStiffAndStrands(int sm) {
        return sm >= 0 && sm <= 99 && sm % 10 >= 2 && sm % 10 <= 4;
    }

    private int addMade() {
        if (drawn >= MOST_PICTURES) return FULL;
        pictures[drawn].copy(made);
        return drawn++;
    }

    /** Puts THE TAPE's letters into the word, each as twice its place, and 1 if it is a capital. */
    private int faultOfWord(int strands) {
        for (int i = 0; i < taped; i++) {
            boolean capital = tape[i] >= 'A' && tape[i] <= 'Z';
            int place = tape[i] - (capital ? 'A' : 'a');
            if (i >= MOST_CROSSINGS || place < 0 || place > strands - 2) return i;
            word[i] = 2 * place + (capital ? 1 : 0);
        }
        return SOUND;
    }

    /** A picture's sum is worked out when it is first asked for, and kept till the picture changes. */
    private int[] sumOf(Picture told) {
        if (!told.summed) {
            sums.cut(told);
            sums.work(told.pluses);
            System.arraycopy(sums.value, 0, told.sum, 0, SPAN);
            told.summed = true;
        }
        return told.sum;
    }

    private static int leastPower(int[] sum) {
        for (int i = 0; i < SPAN; i++) if (sum[i] != 0) return 2 * i - FARTHEST;
        return 0;
    }

    private static int greatestPower(int[] sum) {
        for (int i = SPAN - 1; i >= 0; i--) if (sum[i] != 0) return 2 * i - FARTHEST;
        return 0;
    }

    private static boolean isPlain(int[] sum) {
        for (int i = 0; i < SPAN; i++) if (sum[i] != (i == NO_POWER ? 1 : 0)) return false;
        return true;
    }

    private static boolean areAlike(int[] one, int[] other) {
        for (int i = 0; i < SPAN; i++) if (one[i] != other[i]) return false;
        return true;
    }

    private int which(int picture) {
        int[] sum = sumOf(pictures[picture]);
        for (int i = 0; i < picture; i++) if (areAlike(sumOf(pictures[i]), sum)) return i;
        return NOT;
    }

    private int fewestChanges(Picture told) {
        sums.cut(told);
        int best = told.ways() - 1;
        for (int bits = 0; bits < told.ways(); bits++) {
            // the least bits come first, so a like number later is not taken
            if (bits != 0 && Integer.bitCount(bits) >= Integer.bitCount(best)) continue;
            sums.work(told.pluses ^ bits);
            if (isPlain(sums.value)) best = bits;
        }
        return best;
    }

    /** One crossing as itself, two as 10 times the one and the other. */
    private static int crossingsAsDigits(int bits) {
        int digits = 0;
        for (int c = 0; c < MOST_CROSSINGS; c++) if ((bits >> c & 1) != 0) digits = 10 * digits + c;
        return digits;
    }

    /** Leaves the simpler picture in made, and tells how many moves it took. */
    private int makeSimpler(Picture told) {
        made.copy(told);
        for (int done = 0; done < MOST_CROSSINGS; done++) {
            int gone = made.goneByMove();
            if (gone == 0) return done;
            spare.beWithout(made, gone);
            made.copy(spare);
        }
        return MOST_CROSSINGS;
    }

    private int plainAmong(Picture told, int hiddenOnes) {
        int count = 0;
        for (int bits = 0; bits < told.ways(); bits++) {
            if ((bits & ~hiddenOnes) != 0) continue;
            sums.work(told.pluses ^ bits);
            if (isPlain(sums.value)) count++;
        }
        return count;
    }

    private int unlikeAmong(Picture told, int hiddenOnes) {
        unlike.forget();
        for (int bits = 0; bits < told.ways(); bits++) {
            if ((bits & ~hiddenOnes) != 0) continue;
            sums.work(told.pluses ^ bits);
            unlike.keepIfNew(sums.value);
        }
        return unlike.kept;
    }

    private boolean firstWord(int letters) {
        Arrays.fill(word, 0);
        return letters > 0;
    }

    /** The next word of small letters; false behind the last one. */
    private boolean nextWord(int letters, int strands) {
        for (int i = 0; i < letters && i < word.length; i++) {
            if (word[i] < 2 * (strands - 2)) {
                word[i] += 2;
                return true;
            }
            word[i] = 0;
        }
        return false;
    }

    /** Of the words that are made's word but for capitals: one for each way to set the signs. */
    private int countWays(int what) {
        if (what == -2) return made.ways();
        int[] wanted = what >= 0 ? sumOf(pictures[what]) : null;
        int count = 0;
        sums.cut(made);
        for (int pluses = 0; pluses < made.ways(); pluses++) {
            sums.work(pluses);
            if (wanted == null ? isPlain(sums.value) : areAlike(sums.value, wanted)) count++;
        }
        return count;
    }

    private void changeAgain(int change) {
        int picture = change / 10;
        if (isPicture(picture)) pictures[picture].changeAt(change % 10);
    }

    /** 0 if the shelf holds a row that has element i. */
    private int refusalOfElement(int shelf, int i) {
        if (!isShelf(shelf)) return BAD;
        Shelf told = shelves[shelf];
        if (told.holds == Shelf.NOTHING) return NOTHING_THERE;
        if (told.holds != Shelf.ROW) return OTHER_KIND;
        return told.hasPlaces(i, 1) ? 0 : NO_PLACE;
    }

    /** A picture; it is begun empty and made visit by visit, which numbers its crossings as they are met. */
    private static final class Picture {
        final int[] at = new int[MOST_VISITS];
        /** The crossing's number by what it is called while the picture is made; -1 for not met. */
        final int[] numbers = new int[MOST_VISITS];
        final int[] sum = new int[SPAN];
        boolean summed;
        int crossings;
        int visits;
        /** Bits of the visits that are over, and of the crossings with sign 1. */
        int overs;
        int pluses;

        void begin() {
            Arrays.fill(numbers, -1);
            summed = false;
            crossings = 0;
            visits = 0;
            overs = 0;
            pluses = 0;
        }

        void visit(int name, boolean over, boolean plus) {
            if (name < 0 || name >= numbers.length || visits >= at.length) return;
            if (numbers[name] < 0) {
                if (crossings >= MOST_CROSSINGS) return;
                if (plus) pluses |= 1 << crossings;
                numbers[name] = crossings++;
            }
            if (over) overs |= 1 << visits;
            at[visits++] = numbers[name];
        }

        void copy(Picture other) {
            System.arraycopy(other.at, 0, at, 0, MOST_VISITS);
            summed = false;
            crossings = other.crossings;
            visits = other.visits;
            overs = other.overs;
            pluses = other.pluses;
        }

        boolean isOver(int visit) {
            return (overs >> visit & 1) != 0;
        }

        boolean isPlus(int crossing) {
            return (pluses >> crossing & 1) != 0;
        }

        int ways() {
            return 1 << crossings;
        }

        int writhe() {
            return 2 * Integer.bitCount(pluses) - crossings;
        }

        int after(int visit) {
            return visit + 1 < visits ? visit + 1 : 0;
        }

        int before(int visit) {
            return visit > 0 ? visit - 1 : visits - 1;
        }

        /** The other visit of the same crossing. */
        int again(int visit) {
            for (int k = 0; k < visits; k++) if (k != visit && at[k] == at[visit]) return k;
            return visit;
        }

        int visitOf(int crossing, boolean over) {
            for (int k = 0; k < visits; k++) if (at[k] == crossing && isOver(k) == over) return k;
            return -1;
        }

        /** Whether the crossing may come next, over or under: it is the next new one, or lacks that visit. */
        boolean mayCome(int crossing, boolean over) {
            if (crossing < 0 || crossing > crossings || crossing >= MOST_CROSSINGS) return false;
            return visitOf(crossing, over) < 0;
        }

        boolean anyMayCome(boolean over) {
            for (int c = 0; c <= crossings; c++) if (mayCome(c, over)) return true;
            return false;
        }

        boolean isWhole() {
            return visits == 2 * crossings;
        }

        /** Reads a text: its fault's place, or that it is sound. */
        int read(byte[] text, int length) {
            begin();
            int k = 0;
            while (k < length) {
                boolean over = text[k] == 'o';
                if (!over && text[k] != 'u' || !anyMayCome(over)) return k;
                k++;
                if (k >= length) return length;
                int crossing = text[k] - '1';
                if (!mayCome(crossing, over)) return k;
                k++;
                boolean plus = false;
                if (crossing == crossings) {
                    if (k >= length) return length;
                    plus = text[k] == '+';
                    if (!plus && text[k] != '-') return k;
                    k++;
                }
                visit(crossing, over, plus);
            }
            return isWhole() ? SOUND : length;
        }

        /** Reads visits told as numbers; whether they may be so. */
        boolean readRow(long[] elements, int from, int length) {
            begin();
            for (int k = 0; k < length; k++) {
                int told = (int) elements[from + k];
                int size = Math.abs(told);
                int crossing = size / 10 - 1;
                boolean over = size % 10 == 1;
                if (size % 10 > 1 || !mayCome(crossing, over)) return false;
                if (crossing < crossings && isPlus(crossing) != (told > 0)) return false;
                visit(crossing, over, told > 0);
            }
            return isWhole();
        }

        /** Makes the picture of a word closed to a cord; false if it is several cords. */
        boolean beClosed(int[] word, int letters, int strands) {
            begin();
            int place = 0;
            for (int round = 1; round <= strands; round++) {
                place = goAlong(word, letters, place);
                if (place == 0) return round == strands;
            }
            return false;
        }

        /** Goes through the word once, from a place at the beginning to a place at the end. */
        int goAlong(int[] word, int letters, int from) {
            int place = from;
            for (int i = 0; i < letters && i < word.length; i++) {
                int left = word[i] / 2;
                boolean small = word[i] % 2 == 0;
                if (place == left) {
                    visit(i, small, small);
                    place = left + 1;
                } else if (place == left + 1) {
                    visit(i, !small, small);
                    place = left;
                }
            }
            return place;
        }

        void beMirrorOf(Picture other) {
            begin();
            for (int k = 0; k < other.visits; k++) visit(other.at[k], !other.isOver(k), !other.isPlus(other.at[k]));
        }

        void beTurned(Picture other) {
            begin();
            for (int k = other.visits - 1; k >= 0; k--) visit(other.at[k], other.isOver(k), other.isPlus(other.at[k]));
        }

        void beJoined(Picture one, Picture other) {
            begin();
            addAll(one, 0);
            addAll(other, MOST_CROSSINGS);
        }

        void addAll(Picture other, int names) {
            for (int k = 0; k < other.visits; k++) {
                visit(names + other.at[k], other.isOver(k), other.isPlus(other.at[k]));
            }
        }

        void beWithout(Picture other, int gone) {
            begin();
            for (int k = 0; k < other.visits; k++) {
                int crossing = other.at[k];
                if ((gone >> crossing & 1) == 0) visit(crossing, other.isOver(k), other.isPlus(crossing));
            }
        }

        void changeAt(int crossing) {
            if (crossing < 0 || crossing >= crossings) return;
            for (int k = 0; k < visits; k++) if (at[k] == crossing) overs ^= 1 << k;
            pluses ^= 1 << crossing;
            summed = false;
        }

        boolean canBeDrawn() {
            return faces() == crossings + 2;
        }

        /** Each arc is gone along twice, on and back; the ways still to go are bits. */
        int faces() {
            if (visits == 0) return 2;
            int gone = 0;
            int faces = 0;
            for (int way = 0; way < 2 * visits; way++) {
                if ((gone >> way & 1) != 0) continue;
                gone |= face(way);
                faces++;
            }
            return faces;
        }

        int face(int first) {
            int gone = 0;
            int way = first;
            for (int step = 0; step < 2 * visits; step++) {
                gone |= 1 << way;
                way = nextOfFace(way);
                if (way == first) break;
            }
            return gone;
        }

        /** A way is twice the arc's number, and 1 if it goes back. */
        int nextOfFace(int way) {
            boolean on = way % 2 == 0;
            int visit = on ? after(way / 2) : way / 2;
            // ends of a crossing with sign 1, going round: 0 over in, 1 under in, 2 over out, 3 under out
            int end = (isOver(visit) ? 0 : 1) + (on ? 0 : 2);
            int next = end + (isPlus(at[visit]) ? 1 : 3) & 3;
            int other = again(visit);
            return next < 2 ? 2 * before(other) + 1 : 2 * other;
        }

        /** The crossings, as bits, that the first move takes out; 0 if there is none. */
        int goneByMove() {
            for (int c = 0; c < crossings; c++) {
                if (follow(visitOf(c, true), visitOf(c, false))) return 1 << c;
            }
            for (int c = 0; c < crossings; c++) {
                for (int d = c + 1; d < crossings; d++) if (goneByTwo(c, d)) return 1 << c | 1 << d;
            }
            return 0;
        }

        boolean goneByTwo(int c, int d) {
            return isPlus(c) != isPlus(d) && follow(visitOf(c, true), visitOf(d, true))
                && follow(visitOf(c, false), visitOf(d, false));
        }

        boolean follow(int one, int other) {
            return after(one) == other || after(other) == one;
        }

        /** The least visit from which on so many visits hold both of all their crossings; -1 if none. */
        int firstOfPart(int length) {
            for (int first = 0; first < visits; first++) {
                int odd = 0;
                for (int i = 0; i < length; i++) odd ^= 1 << at[(first + i) % visits];
                if (odd == 0) return first;
            }
            return -1;
        }
    }

    /**
     * Works out sums. Which rings are left depends on the cord's way alone, not on the signs: so one
     * picture is cut once, and its sums with any signs are then worked out from that.
     */
    private static final class Sums {
        private static final int[] CHOOSE = {
            1, 0, 0, 0, 0, 0, 0, 0,
            1, 1, 0, 0, 0, 0, 0, 0,
            1, 2, 1, 0, 0, 0, 0, 0,
            1, 3, 3, 1, 0, 0, 0, 0,
            1, 4, 6, 4, 1, 0, 0, 0,
            1, 5, 10, 10, 5, 1, 0, 0,
            1, 6, 15, 20, 15, 6, 1, 0,
            1, 7, 21, 35, 35, 21, 7, 1};

        /** By the bits of the crossings that are cut so that the cord's way goes on: how many rings. */
        private final int[] rings = new int[MOST_WAYS];
        private final int[] crossed = new int[MOST_VISITS];
        private final int[] others = new int[MOST_VISITS];
        private final int[] tally = new int[64];
        private int crossings;
        private int visits;
        /** The sum worked out last, from the power -42 on by twos. */
        final int[] value = new int[SPAN];

        void cut(Picture told) {
            crossings = told.crossings;
            visits = told.visits;
            for (int k = 0; k < visits; k++) {
                crossed[k] = told.at[k];
                others[k] = told.again(k);
            }
            for (int cuts = 0; cuts < told.ways(); cuts++) rings[cuts] = ringsOf(cuts);
        }

        private int ringsOf(int cuts) {
            if (visits == 0) return 1;
            int gone = 0;
            int count = 0;
            for (int arc = 0; arc < visits; arc++) {
                if ((gone >> arc & 1) != 0) continue;
                gone |= ring(cuts, arc);
                count++;
            }
            return count;
        }

        /** The arcs, as bits, of the ring on which the first arc lies. */
        private int ring(int cuts, int first) {
            int gone = 0;
            int arc = first;
            boolean on = true;
            for (int step = 0; step < visits; step++) {
                gone |= 1 << arc;
                int visit = !on ? arc : arc + 1 < visits ? arc + 1 : 0;
                int other = others[visit];
                if ((cuts >> crossed[visit] & 1) == 0) on = !on;
                arc = on ? other : other > 0 ? other - 1 : visits - 1;
                if (arc == first) break;
            }
            return gone;
        }

        /** The sum of the picture that was cut, were the crossings with sign 1 those of the bits. */
        void work(int pluses) {
            Arrays.fill(tally, 0);
            Arrays.fill(value, 0);
            for (int cuts = 0; cuts < 1 << crossings; cuts++) {
                int inOtherWay = Integer.bitCount(cuts ^ pluses);
                int at = 8 * inOtherWay + rings[cuts] - 1;
                if (at >= 0 && at < tally.length) tally[at]++;
            }
            int writhe = 2 * Integer.bitCount(pluses) - crossings;
            for (int at = 0; at < tally.length; at++) {
                if (tally[at] != 0) spread(crossings - 2 * (at / 8) - 3 * writhe, at % 8, tally[at]);
            }
        }

        /** Adds so many times x to the power of e, times (-x^2 - x^-2) to a power, by the writhe's sign. */
        private void spread(int e, int power, int times) {
            // the writhe is odd or even as the number of crossings is
            int signed = (crossings + power) % 2 == 0 ? times : -times;
            for (int i = 0; i <= power; i++) {
                int at = (e + 2 * power - 4 * i + FARTHEST) / 2;
                if (at >= 0 && at < SPAN) value[at] += signed * CHOOSE[8 * power + i];
            }
        }
    }

    /** The unlike ones of the sums that are shown to it. */
    private static final class Unlike {
        private final int[] sums = new int[MOST_WAYS * SPAN];
        int kept;

        void forget() {
            kept = 0;
        }

        void keepIfNew(int[] sum) {
            for (int i = 0; i < kept; i++) if (isKept(i, sum)) return;
            if (kept >= MOST_WAYS) return;
            System.arraycopy(sum, 0, sums, kept * SPAN, SPAN);
            kept++;
        }

        private boolean isKept(int i, int[] sum) {
            for (int k = 0; k < SPAN; k++) if (sums[i * SPAN + k] != sum[k]) return false;
            return true;
        }
    }

    /** The law's text, read anew whenever it is worked out. */
    private static final class Law {
        private final byte[] own = new byte[MOST_BYTES];
        private int ownLength;
        private byte[] text = own;
        private int length;
        private int place;
        private boolean wrong;
        int cordLength;
        int box;
        int stiffness;
        int draw;
        int strands;

        int fault(byte[] other, int otherLength) {
            text = other;
            length = otherLength;
            worth();
            return wrong ? place : SOUND;
        }

        void become(byte[] other, int otherLength) {
            ownLength = Math.min(otherLength, MOST_BYTES);
            System.arraycopy(other, 0, own, 0, ownLength);
        }

        /** How many letters the law gives. */
        int letters() {
            if (ownLength == 0) return 0;
            text = own;
            length = ownLength;
            return Math.max(0, Math.min(MOST_LETTERS, worth()));
        }

        private int worth() {
            place = 0;
            wrong = false;
            int answer = 0;
            boolean counted = false;
            for (int line = 0; line < MOST_BYTES && !wrong; line++) {
                int first = either(0);
                boolean asks = !wrong && comes('?');
                int then = asks ? either(0) : first;
                if (!counted && (!asks || first != 0)) {
                    counted = true;
                    answer = then;
                }
                if (wrong || place >= length) return answer;
                if (!comes(';')) wrong = true;
            }
            return answer;
        }

        private int next() {
            return place < length && place < text.length ? text[place] : -1;
        }

        private boolean comes(char wanted) {
            if (next() != wanted) return false;
            place++;
            return true;
        }

        // How many of ( ! - are open is carried down: the text's own bound is the bound of the calls.

        private int either(int open) {
            int value = both(open);
            for (int i = 0; i < MOST_BYTES && !wrong && comes('|'); i++) {
                int other = both(open);
                value = value != 0 || other != 0 ? 1 : 0;
            }
            return value;
        }

        private int both(int open) {
            int value = compared(open);
            for (int i = 0; i < MOST_BYTES && !wrong && comes('&'); i++) {
                int other = compared(open);
                value = value != 0 && other != 0 ? 1 : 0;
            }
            return value;
        }

        private int compared(int open) {
            int value = added(open);
            if (wrong) return 0;
            if (comes('<')) return value < added(open) ? 1 : 0;
            if (comes('=')) return value == added(open) ? 1 : 0;
            if (comes('>')) return value > added(open) ? 1 : 0;
            return value;
        }

        private int added(int open) {
            int value = multiplied(open);
            for (int i = 0; i < MOST_BYTES && !wrong; i++) {
                if (comes('+')) value += multiplied(open);
                else if (comes('-')) value -= multiplied(open);
                else break;
            }
            return value;
        }

        private int multiplied(int open) {
            int value = single(open);
            for (int i = 0; i < MOST_BYTES && !wrong; i++) {
                if (comes('*')) value *= single(open);
                else if (comes('/')) value = divided(value, single(open));
                else if (comes('%')) value = left(value, single(open));
                else break;
            }
            return value;
        }

        private static int divided(int value, int by) {
            return by == 0 ? 0 : value / by;
        }

        private static int left(int value, int by) {
            return by == 0 ? 0 : value % by;
        }

        private int single(int open) {
            int first = next();
            if (first >= '0' && first <= '9') return number();
            if (first == '(' || first == '!' || first == '-') return opened(open);
            return named();
        }

        private int named() {
            if (comes('n')) return cordLength;
            if (comes('b')) return box;
            if (comes('s')) return stiffness;
            if (comes('z')) return draw;
            if (comes('m')) return strands;
            wrong = true;
            return 0;
        }

        private int opened(int open) {
            if (open >= 6) {
                wrong = true;
                return 0;
            }
            if (comes('!')) return single(open + 1) == 0 ? 1 : 0;
            if (comes('-')) return -single(open + 1);
            place++;
            int value = either(open + 1);
            if (!wrong && !comes(')')) wrong = true;
            return value;
        }

        private int number() {
            int value = 0;
            for (int digits = 0; digits < 4 && next() >= '0' && next() <= '9'; digits++) {
                value = 10 * value + next() - '0';
                place++;
            }
            return value;
        }
    }

    /** Shakes boxes, and counts what comes of it. */
    private static final class Shaker {
        private static final int SEVERAL = 0, PLAIN = 1, KNOTTED = 2, SLOTS = 509;

        final Law law = new Law();
        private final Picture made = new Picture();
        private final Sums sums = new Sums();
        private final int[] word = new int[MOST_LETTERS];
        /** What came of words lately: like shakes come again and again when a least length is looked for. */
        private final int[] known = new int[SLOTS];
        private int z;
        int knotted;
        int several;

        void shakeAll(int times, int length, int box, int stiffAndStrands, int seed) {
            int strands = stiffAndStrands % 10;
            law.cordLength = length;
            law.box = box;
            law.stiffness = stiffAndStrands / 10;
            law.strands = strands;
            z = seed;
            knotted = 0;
            several = 0;
            for (int i = 0; i < times; i++) {
                law.draw = draw(100);
                int letters = law.letters();
                for (int k = 0; k < letters && k < word.length; k++) word[k] = draw(2 * strands - 2);
                int outcome = outcome(letters, strands);
                if (outcome == KNOTTED) knotted++;
                if (outcome == SEVERAL) several++;
            }
        }

        private int draw(int below) {
            z = z * 1103515245 + 12345;
            return below > 0 ? (z >>> 8) % below : 0;
        }

        private int outcome(int letters, int strands) {
            // the strands come first and are not 0: so no two words share a key
            int key = strands;
            for (int k = 0; k < letters && k < word.length; k++) key = 8 * key + word[k];
            int slot = key % SLOTS;
            if (slot < 0 || slot >= known.length) return SEVERAL;
            if (known[slot] >> 2 != key) known[slot] = key << 2 | workOut(letters, strands);
            return known[slot] & 3;
        }

        private int workOut(int letters, int strands) {
            if (!made.beClosed(word, letters, strands)) return SEVERAL;
            sums.cut(made);
            sums.work(made.pluses);
            return isPlain(sums.value) ? PLAIN : KNOTTED;
        }
    }

    /** The crossings changed by call: those that may be undone, then those that may be done again. */
    private static final class Changes {
        private final int[] done = new int[MOST_CHANGES];
        int undoable;
        int redoable;

        /** A change is 10 times the picture and the crossing. */
        void add(int picture, int crossing) {
            if (undoable >= MOST_CHANGES) {
                System.arraycopy(done, 1, done, 0, MOST_CHANGES - 1);
                undoable = MOST_CHANGES - 1;
            }
            done[undoable++] = 10 * picture + crossing;
            redoable = 0;
        }

        int takeBack() {
            if (undoable <= 0 || undoable > MOST_CHANGES) return -1;
            undoable--;
            redoable++;
            return done[undoable];
        }

        int takeUp() {
            if (redoable <= 0 || undoable >= MOST_CHANGES) return -1;
            redoable--;
            return done[undoable++];
        }

        void end() {
            undoable = 0;
            redoable = 0;
        }
    }

    /** The lies that are kept, their acts, and the trace of the latest one. */
    private static final class Lies {
        static final int KINDS = 8;
        private static final int LIES = 0, CROSSES = 1, UNDOES = 2, TELLS = 3, ACTS = 4;
        private static final int MOST_TRACED = 24, DEEPEST = 40;
        /** By kind: the kind right above it. */
        private static final int[] ABOVE = {-1, 0, 0, 2, 1, 0, 0, 2};
        /** By kind and act: the body of its own; 0 if it has none. */
        private static final int[] OWN = {
            1, 10, 11, 2,
            20, 0, 0, 0,
            0, 30, 0, 0,
            0, 41, 40, 0,
            0, 0, 0, 50,
            0, 0, 60, 0,
            70, 0, 0, 0,
            0, 80, 0, 81};

        private final int[] kinds = new int[MOST_LIES];
        int kept;
        final int[] trace = new int[MOST_TRACED];
        int ran;
        private int number;
        private int kind;

        int keepOne(int kindOfIt) {
            if (kept >= kinds.length) return FULL;
            kinds[kept] = kindOfIt;
            return kept++;
        }

        int kindOf(int lie) {
            return lie >= 0 && lie < kept ? kinds[lie] : 0;
        }

        int traced() {
            return Math.min(ran, MOST_TRACED);
        }

        static boolean isUnder(int kind, int wanted) {
            int at = kind;
            for (int step = 0; step < KINDS && at >= 0; step++) {
                if (at == wanted) return true;
                at = ABOVE[at];
            }
            return false;
        }

        int begin(int lie, int act, int x) {
            ran = 0;
            if (lie < 0 || lie >= kept || act < 0 || act >= ACTS) return 0;
            number = lie;
            kind = kinds[lie];
            return run(kind, act, x, 0);
        }

        /** Runs the body of an act that is found first, from a kind on upward. */
        private int run(int from, int act, int x, int depth) {
            int at = from;
            for (int step = 0; step < KINDS && at > 0 && OWN[ACTS * at + act] == 0; step++) at = ABOVE[at];
            if (at < 0 || depth > DEEPEST) return 0;
            int body = OWN[ACTS * at + act];
            if (ran < MOST_TRACED) trace[ran] = body;
            ran++;
            return work(body, ABOVE[at], x, depth + 1);
        }

        private int work(int body, int above, int x, int depth) {
            switch (body) {
                case 1: return x + number;
                case 2: return run(kind, CROSSES, x, depth) - run(kind, UNDOES, 1, depth);
                case 10: return run(kind, LIES, x, depth) * 2;
                case 11: return x ^ number;
                case 20: return run(above, LIES, x, depth) + 3;
                case 30: return -run(above, CROSSES, x, depth);
                case 40: return run(above, UNDOES, x, depth) * 3;
                case 41: return run(above, CROSSES, x + 1, depth);
                case 50: return run(above, TELLS, x, depth) ^ 5;
                case 60: return run(above, UNDOES, x, depth) - run(kind, LIES, 2, depth);
                case 70: return run(above, LIES, x, depth) * 2;
                case 80: return run(above, CROSSES, x, depth) + run(kind, UNDOES, 2, depth);
                case 81: return run(above, TELLS, x, depth) - 1;
                default: return 0;
            }
        }
    }

    /** A shelf; its row is made once, and used for every row that it comes to hold. */
    private static final class Shelf {
        static final int NOTHING = 0, LIE = 1, ROW = 2;
        static final int BYTES = 0, SHORTS = 1, INTS = 2, LONGS = 3, BOOLEANS = 4;
        static final int MOST = 60;

        final long[] elements = new long[MOST];
        int holds;
        int body;
        int sort;
        int size;

        /** Holds a lie, or with -1 nothing. */
        void holdLie(int lie) {
            holds = lie < 0 ? NOTHING : LIE;
            body = lie;
        }

        void holdRow(int sortOfIt, int sizeOfIt) {
            Arrays.fill(elements, 0L);
            holds = ROW;
            sort = sortOfIt;
            size = Math.min(sizeOfIt, MOST);
        }

        boolean isRowOf(int wanted) {
            return holds == ROW && sort == wanted;
        }

        /** Whether n places from i on are there; with n 0, i may be the end. */
        boolean hasPlaces(int i, int n) {
            return i >= 0 && n >= 0 && i <= size - n;
        }

        void putIn(int i, long v) {
            if (i < 0 || i >= elements.length) return;
            switch (sort) {
                case BYTES: elements[i] = (byte) v; break;
                case SHORTS: elements[i] = (short) v; break;
                case INTS: elements[i] = (int) v; break;
                case LONGS: elements[i] = v; break;
                default: elements[i] = v != 0 ? 1 : 0; break;
            }
        }
    }
}
