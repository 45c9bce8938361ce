/**
 * Words of a few mirrors, their least words, roots, order, cosets, growth and polynomials.
 *
 * An element is known by a row of weights (see Mirrors): a mirror changes such a row in a few steps, its
 * signs tell which mirrors lead down, and two elements never share a row. So most calls need no more than
 * such rows. What takes much room is made once, when it is first needed, and used again.
 */
public final class MirrorRoots {
    public static final int NONE = -1, UNKNOWN = -1001, OUTSIDE = -1002, NOT = -1003, FULL = -1004, LARGE = -1005;

    // Every row has room for the most mirrors there can be, whatever the group.
    private static final int ROW = 5;
    private static final int SQUARE = ROW * ROW;
    private static final int MOST_LETTERS = 20;
    private static final int MOST_KEPT = 40;
    private static final int MOST_BYTES = 120;
    private static final int MOST_TO_SPELL = 12;
    private static final int SHORT = 8;

    private final Mirrors mirrors = new Mirrors();
    private final Telling text = new Telling();
    private final Kept kept = new Kept(mirrors);
    private final Words sides = new Words(mirrors, kept);
    private final Roots roots = new Roots(mirrors, kept);
    private final Paths paths = new Paths(mirrors, kept);
    private final int[] draft = new int[MOST_LETTERS];
    private int drafted = 0;
    // These three take much room: null, until they are first needed.
    private Layers layers = null;
    private Shifts shifting = null;
    private Ideal ideal = null;

    public MirrorRoots() {
    }

    // ---- the group

    public int feed(int n, long bytes) {
        if (n < 1 || n > 8) return OUTSIDE;
        return text.append(n, bytes);
    }

    public int read() {
        int wrong = text.parse();
        if (wrong != 0) return -10 - wrong;
        mirrors.become(text.many, text.turning);
        kept.begin();
        drafted = 0;
        forgetCounted();
        return mirrors.many;
    }

    private void forgetCounted() {
        if (layers != null) layers.forget();
        if (shifting != null) shifting.forget();
        if (ideal != null) ideal.forget();
    }

    public int fault() {
        return text.wrongAt;
    }

    public int turns(int i, int j) {
        if (!mirrors.has(i) || !mirrors.has(j)) return OUTSIDE;
        return mirrors.turning[i * ROW + j];
    }

    public int number(int i, int j) {
        if (!mirrors.has(i) || !mirrors.has(j)) return OUTSIDE;
        return mirrors.numbers[i * ROW + j];
    }

    public int count(int what) {
        switch (what) {
            case 0: return mirrors.many;
            case 1: return kept.many;
            case 2: return text.size;
            case 3: return drafted;
            default: return OUTSIDE;
        }
    }

    // ---- words, elements

    public int letter(int s) {
        if (!mirrors.has(s)) return OUTSIDE;
        if (drafted >= MOST_LETTERS) return FULL;
        draft[drafted] = s;
        drafted++;
        return drafted;
    }

    public int keep() {
        int number = kept.keepWord(draft, drafted);
        if (number != FULL) drafted = 0;
        return number;
    }

    public int length(int w) {
        if (!kept.has(w)) return UNKNOWN;
        return kept.lengths[w];
    }

    public int at(int w, int i) {
        if (!kept.has(w)) return UNKNOWN;
        if (i < 0 || i >= kept.lengths[w]) return NONE;
        return kept.letterOf(w, i);
    }

    public int down(int w, int what) {
        if (!kept.has(w)) return UNKNOWN;
        if (what < 0 || what > 1) return OUTSIDE;
        return mirrors.setBelow(what == 0 ? kept.left : kept.right, w * ROW);
    }

    public long root(int w, int i, int k) {
        if (!kept.has(w)) return UNKNOWN;
        if (!mirrors.has(i) || !mirrors.has(k)) return OUTSIDE;
        return roots.imageAt(w, i, k);
    }

    public int times(int u, int w) {
        if (!kept.has(u) || !kept.has(w)) return UNKNOWN;
        return sides.keepProduct(u, w);
    }

    public int back(int w) {
        if (!kept.has(w)) return UNKNOWN;
        return sides.keepBack(w);
    }

    // ---- order, least words

    public int below(int u, int w) {
        if (!kept.has(u) || !kept.has(w)) return UNKNOWN;
        return sides.standsBelow(u, w) ? 1 : 0;
    }

    public int covers(int w) {
        if (!kept.has(w)) return UNKNOWN;
        return sides.countCovers(w);
    }

    public long words(int w) {
        if (!kept.has(w)) return UNKNOWN;
        if (kept.lengths[w] > MOST_TO_SPELL) return LARGE;
        return needLayers().countLeastWords(w);
    }

    public int exchange(int w, int s) {
        if (!kept.has(w)) return UNKNOWN;
        if (!mirrors.has(s)) return OUTSIDE;
        if (kept.right[w * ROW + s] > 0) return NOT;
        return roots.exchanged(w, s);
    }

    public long inversion(int w, int i, int k) {
        if (!kept.has(w)) return UNKNOWN;
        if (!mirrors.has(k)) return OUTSIDE;
        if (i < 0 || i >= kept.lengths[w]) return 0;
        return roots.inversionAt(w, i, k);
    }

    // ---- cosets, growth

    public int coset(int w, int set, int what) {
        if (!kept.has(w)) return UNKNOWN;
        if (!mirrors.hasSet(set) || what < 0 || what > 1) return OUTSIDE;
        return what == 0 ? sides.keepLeast(w, set) : sides.keepRest(w, set);
    }

    public int both(int w, int left, int right) {
        if (!kept.has(w)) return UNKNOWN;
        if (!mirrors.hasSet(left) || !mirrors.hasSet(right)) return OUTSIDE;
        return sides.shortestBetween(w, left, right);
    }

    public int growth(int l) {
        if (l < 0 || l > MOST_LETTERS) return OUTSIDE;
        return needLayers().countOfLength(l);
    }

    public int whole(int what) {
        if (what < 0 || what > 1) return OUTSIDE;
        return what == 0 ? needLayers().countAll() : needLayers().greatestLength();
    }

    private Layers needLayers() {
        if (layers == null) layers = new Layers(mirrors, kept);
        return layers;
    }

    public int order(int w) {
        if (!kept.has(w)) return UNKNOWN;
        if (kept.lengths[w] > SHORT) return LARGE;
        return roots.orderOf(w);
    }

    public int shifts(int w, int what) {
        if (!kept.has(w)) return UNKNOWN;
        if (what < 0 || what > 2) return OUTSIDE;
        if (shifting == null) shifting = new Shifts(mirrors, kept);
        return shifting.tell(w, what);
    }

    // ---- polynomials

    public int r(int u, int w, int k) {
        if (!kept.has(u) || !kept.has(w)) return UNKNOWN;
        if (k < 0) return OUTSIDE;
        if (kept.lengths[w] > SHORT) return LARGE;
        return paths.numberAt(u, w, k);
    }

    public int p(int u, int w, int k) {
        if (!kept.has(u) || !kept.has(w)) return UNKNOWN;
        if (k < 0) return OUTSIDE;
        if (kept.lengths[w] > SHORT) return LARGE;
        return needIdeal().under(w).numberAt(u, k);
    }

    public int leans(int u, int w) {
        if (!kept.has(u) || !kept.has(w)) return UNKNOWN;
        if (kept.lengths[w] > SHORT) return LARGE;
        int apart = kept.lengths[w] - kept.lengths[u];
        if (apart < 0 || apart % 2 == 0) return 0;
        return needIdeal().under(w).numberAt(u, (apart - 1) / 2);
    }

    public int rough(int w) {
        if (!kept.has(w)) return UNKNOWN;
        if (kept.lengths[w] > SHORT) return LARGE;
        return needIdeal().under(w).countRough();
    }

    private Ideal needIdeal() {
        if (ideal == null) ideal = new Ideal(mirrors, kept);
        return ideal;
    }

    /**
     * The group, and how its mirrors change rows: roots (as the document tells) and weights.
     *
     * The weights of an element w: start with 1 at each mirror (nothing done yet), and let the letters of w
     * change the row from the last to the first. The number at s is below 0 just if s is down on the left of w,
     * and changing the row by s gives the weights of s, w. From the row the letters can be read off again, so
     * it belongs to w alone. What is down on the right of w is told by the weights of w back.
     */
    private static final class Mirrors {
        private int many;
        private final int[] turning = new int[SQUARE];
        private final int[] numbers = new int[SQUARE];

        private Mirrors() {
            many = 3;
            for (int i = 0; i < many; i++) {
                for (int j = 0; j < many; j++) setPair(i, j, startTurns(i, j));
            }
        }

        private static int startTurns(int i, int j) {
            if (i == j) return 1;
            return i + j == 2 ? 2 : 3;
        }

        private void become(int n, int[] told) {
            many = n;
            for (int i = 0; i < n; i++) {
                for (int j = 0; j < n; j++) setPair(i, j, i == j ? 1 : told[i * ROW + j]);
            }
        }

        private void setPair(int i, int j, int turns) {
            turning[i * ROW + j] = turns;
            numbers[i * ROW + j] = i == j ? 2 : numberFor(turns, i < j);
        }

        private static int numberFor(int turns, boolean lesserFirst) {
            switch (turns) {
                case 3: return -1;
                case 4: return lesserFirst ? -2 : -1;
                case 6: return lesserFirst ? -3 : -1;
                case 0: return -2;
                default: return 0;
            }
        }

        private boolean has(int i) {
            return i >= 0 && i < many;
        }

        private boolean hasSet(int set) {
            return set >= 0 && set < 1 << many;
        }

        private void startRoot(long[] rows, int from, int i) {
            for (int j = 0; j < many; j++) rows[from + j] = j == i ? 1 : 0;
        }

        private void turnRoot(long[] rows, int from, int s) {
            long less = 0;
            for (int j = 0; j < many; j++) less += numbers[s * ROW + j] * rows[from + j];
            rows[from + s] -= less;
        }

        private void startWeights(long[] rows, int from) {
            for (int j = 0; j < many; j++) rows[from + j] = 1;
        }

        private void turnWeights(long[] rows, int from, int s) {
            long part = rows[from + s];
            for (int j = 0; j < many; j++) rows[from + j] -= part * numbers[j * ROW + s];
        }

        private void copyRow(long[] rows, int from, long[] into, int to) {
            for (int j = 0; j < many; j++) into[to + j] = rows[from + j];
        }

        private boolean sameRow(long[] rows, int from, long[] others, int at) {
            for (int j = 0; j < many; j++) {
                if (rows[from + j] != others[at + j]) return false;
            }
            return true;
        }

        private int setBelow(long[] rows, int from) {
            int set = 0;
            for (int j = 0; j < many; j++) {
                if (rows[from + j] < 0) set |= 1 << j;
            }
            return set;
        }

        /** The least mirror of a set at which the row is below 0, or NONE. */
        private int leastBelow(long[] rows, int from, int set) {
            for (int j = 0; j < many; j++) {
                if (rows[from + j] < 0 && (set >> j & 1) == 1) return j;
            }
            return NONE;
        }

        private int allMirrors() {
            return (1 << many) - 1;
        }
    }

    /** The text of a group, and its reading. */
    private static final class Telling {
        private static final int CANNOT_STAND = 1, OUT_OF_BOUNDS = 2, TOLD_ALREADY = 3;

        private final int[] bytes = new int[MOST_BYTES];
        private int size = 0;
        private int spot;
        private int wrong;
        private int wrongAt = NONE;
        private int many;
        private final int[] turning = new int[SQUARE];
        private final boolean[] told = new boolean[SQUARE];

        private int append(int n, long more) {
            if (size + n > MOST_BYTES) return FULL;
            for (int i = n - 1; i >= 0; i--) {
                bytes[size] = (int) (more >> 8 * i & 255);
                size++;
            }
            return size;
        }

        /** Reads the text and empties it: the number of its fault, or 0. */
        private int parse() {
            begin();
            // A clause has a byte at least, so there are not more clauses than bytes.
            for (int clause = 0; clause < MOST_BYTES && wrong == 0 && findNext(); clause++) {
                if (isLetter(spot)) tellMirrors(clause == 0);
                else tellPair();
            }
            size = 0;
            return wrong;
        }

        private void begin() {
            spot = 0;
            wrong = 0;
            wrongAt = NONE;
            many = 3;
            for (int i = 0; i < SQUARE; i++) {
                turning[i] = 2;
                told[i] = false;
            }
        }

        private void tellMirrors(boolean first) {
            int start = spot;
            boolean right = takeWord("mirrors");
            if (!right || !first) {
                blame(CANNOT_STAND, start);
                return;
            }
            int n = takeFigure();
            if (wrong != 0) return;
            if (n < 1 || n > ROW) {
                blame(OUT_OF_BOUNDS, spot - 1);
                return;
            }
            many = n;
            takeEnd();
        }

        private void tellPair() {
            int start = spot;
            int i = takeFigure();
            if (wrong == 0 && i >= many) blame(OUT_OF_BOUNDS, spot - 1);
            if (wrong != 0) return;
            int j = takeFigure();
            if (wrong == 0 && (j >= many || j == i)) blame(OUT_OF_BOUNDS, spot - 1);
            if (wrong != 0) return;
            // The pair's fault lies at its I, ahead of whatever is wrong behind J: so it is looked for here.
            if (told[i * ROW + j]) {
                blame(TOLD_ALREADY, start);
                return;
            }
            int t = takeTurns();
            if (wrong != 0) return;
            setPair(i, j, t);
            setPair(j, i, t);
            takeEnd();
        }

        private void setPair(int i, int j, int t) {
            told[i * ROW + j] = true;
            turning[i * ROW + j] = t;
        }

        private int takeTurns() {
            if (findNext() && isLetter(spot)) {
                int start = spot;
                if (!takeWord("never")) blame(CANNOT_STAND, start);
                return 0;
            }
            int t = takeFigure();
            if (wrong == 0 && t != 2 && t != 3 && t != 4 && t != 6) blame(OUT_OF_BOUNDS, spot - 1);
            return t;
        }

        private int takeFigure() {
            if (!findNext() || bytes[spot] < '0' || bytes[spot] > '9') {
                blame(CANNOT_STAND, spot);
                return NONE;
            }
            spot++;
            return bytes[spot - 1] - '0';
        }

        private void takeEnd() {
            if (!findNext() || bytes[spot] != ';') blame(CANNOT_STAND, spot);
            else spot++;
        }

        /** Takes all letters that stand here side by side: whether they are this word. */
        private boolean takeWord(String word) {
            int start = spot;
            boolean same = true;
            while (spot < size && isLetter(spot)) {
                int i = spot - start;
                if (i >= word.length() || word.charAt(i) != bytes[spot]) same = false;
                spot++;
            }
            return same && spot - start == word.length();
        }

        /** Goes over blanks: whether there is a byte behind them. */
        private boolean findNext() {
            while (spot < size && bytes[spot] == ' ') spot++;
            return spot < size;
        }

        private boolean isLetter(int i) {
            return bytes[i] >= 'a' && bytes[i] <= 'z';
        }

        private void blame(int number, int where) {
            wrong = number;
            wrongAt = where;
        }
    }

    /** The elements that are kept: the word of each, its weights (left) and those of it back (right). */
    private static final class Kept {
        private final Mirrors mirrors;
        private int many;
        private final int[] letters = new int[MOST_KEPT * MOST_LETTERS];
        private final int[] lengths = new int[MOST_KEPT];
        private final long[] left = new long[MOST_KEPT * ROW];
        private final long[] right = new long[MOST_KEPT * ROW];
        private final long[] weights = new long[ROW];

        private Kept(Mirrors mirrors) {
            this.mirrors = mirrors;
            begin();
        }

        private void begin() {
            many = 1;
            lengths[0] = 0;
            mirrors.startWeights(left, 0);
            mirrors.startWeights(right, 0);
        }

        private boolean has(int w) {
            return w >= 0 && w < many;
        }

        private int letterOf(int w, int i) {
            return letters[w * MOST_LETTERS + i];
        }

        /** The number of the element of a word of 20 letters or less; it is kept if it is not yet, or FULL. */
        private int keepWord(int[] word, int size) {
            mirrors.startWeights(weights, 0);
            for (int i = size - 1; i >= 0; i--) mirrors.turnWeights(weights, 0, word[i]);
            for (int w = 0; w < many; w++) {
                if (mirrors.sameRow(weights, 0, left, w * ROW)) return w;
            }
            if (many >= MOST_KEPT) return FULL;
            many++;
            writeLast();
            return many - 1;
        }

        private void writeLast() {
            int w = many - 1;
            mirrors.copyRow(weights, 0, left, w * ROW);
            lengths[w] = spell(weights, letters, w * MOST_LETTERS);
            mirrors.startWeights(right, w * ROW);
            for (int i = 0; i < lengths[w]; i++) mirrors.turnWeights(right, w * ROW, letterOf(w, i));
        }

        /** Writes the first shortest word of some weights, which become those of element 0: its length. */
        private int spell(long[] row, int[] word, int from) {
            for (int i = 0; i < MOST_LETTERS; i++) {
                int s = mirrors.leastBelow(row, 0, mirrors.allMirrors());
                if (s == NONE) return i;
                word[from + i] = s;
                mirrors.turnWeights(row, 0, s);
            }
            return MOST_LETTERS;
        }
    }

    /** What weights alone tell of kept elements: products, order, cosets. */
    private static final class Words {
        private final Mirrors mirrors;
        private final Kept kept;
        private final long[] row = new long[ROW];
        private final long[] start = new long[ROW];
        private final int[] taken = new int[MOST_LETTERS];
        private final int[] turned = new int[MOST_LETTERS];

        private Words(Mirrors mirrors, Kept kept) {
            this.mirrors = mirrors;
            this.kept = kept;
        }

        private int keepProduct(int u, int w) {
            mirrors.copyRow(kept.right, u * ROW, row, 0);
            int size = kept.lengths[u];
            for (int i = 0; i < kept.lengths[w]; i++) {
                int s = kept.letterOf(w, i);
                size += row[s] < 0 ? -1 : 1;
                if (size > MOST_LETTERS) return LARGE;
                mirrors.turnWeights(row, 0, s);
            }
            return keepOfRight();
        }

        private int keepBack(int w) {
            for (int i = 0; i < kept.lengths[w]; i++) taken[i] = kept.letterOf(w, i);
            return keepTaken(kept.lengths[w]);
        }

        private int keepLeast(int w, int set) {
            mirrors.copyRow(kept.right, w * ROW, row, 0);
            takeDown(set);
            return keepOfRight();
        }

        private int keepRest(int w, int set) {
            mirrors.copyRow(kept.right, w * ROW, row, 0);
            return keepTaken(takeDown(set));
        }

        private int shortestBetween(int w, int leftSet, int rightSet) {
            mirrors.copyRow(kept.right, w * ROW, row, 0);
            takeDown(rightSet);
            // What the left set takes away after this opens no new way down on the right.
            int size = turnOver();
            return size - takeDown(leftSet);
        }

        private boolean standsBelow(int u, int w) {
            mirrors.copyRow(kept.left, u * ROW, row, 0);
            // With s first in w: u stands below w just if the shorter of u and s, u stands below s, w.
            for (int i = 0; i < kept.lengths[w]; i++) {
                int s = kept.letterOf(w, i);
                if (row[s] < 0) mirrors.turnWeights(row, 0, s);
            }
            return mirrors.leastBelow(row, 0, mirrors.allMirrors()) == NONE;
        }

        /** Letters left out at unlike places give unlike elements, so places are counted. */
        private int countCovers(int w) {
            int covers = 0;
            mirrors.startWeights(start, 0);
            for (int i = 0; i < kept.lengths[w]; i++) {
                if (staysShortest(w, i)) covers++;
                mirrors.turnWeights(start, 0, kept.letterOf(w, i));
            }
            return covers;
        }

        /** Whether each letter behind place i, put to those ahead of it (start), still makes them longer. */
        private boolean staysShortest(int w, int i) {
            mirrors.copyRow(start, 0, row, 0);
            for (int j = i + 1; j < kept.lengths[w]; j++) {
                int s = kept.letterOf(w, j);
                if (row[s] < 0) return false;
                mirrors.turnWeights(row, 0, s);
            }
            return true;
        }

        /** Lets the row go down by mirrors of the set as far as it goes: how many letters were taken. */
        private int takeDown(int set) {
            for (int i = 0; i < MOST_LETTERS; i++) {
                int s = mirrors.leastBelow(row, 0, set);
                if (s == NONE) return i;
                taken[i] = s;
                mirrors.turnWeights(row, 0, s);
            }
            return MOST_LETTERS;
        }

        /** Makes the row, which has the weights of an element back, that element's own: its length. */
        private int turnOver() {
            int size = kept.spell(row, taken, 0);
            mirrors.startWeights(row, 0);
            for (int i = 0; i < size; i++) mirrors.turnWeights(row, 0, taken[i]);
            return size;
        }

        /** The row has the weights of an element back: that element is kept. */
        private int keepOfRight() {
            return keepTaken(kept.spell(row, taken, 0));
        }

        /** Keeps the element of the taken letters from the last to the first. */
        private int keepTaken(int size) {
            for (int i = 0; i < size; i++) turned[i] = taken[size - 1 - i];
            return kept.keepWord(turned, size);
        }
    }

    /** What START ROOTS become by kept elements. */
    private static final class Roots {
        private static final int MOST_TIMES = 30;
        private static final long FAR = 1000000000000L;

        private final Mirrors mirrors;
        private final Kept kept;
        private final long[] row = new long[ROW];
        private final long[] images = new long[SQUARE];

        private Roots(Mirrors mirrors, Kept kept) {
            this.mirrors = mirrors;
            this.kept = kept;
        }

        private void turnBy(int w, long[] rows, int from) {
            for (int i = kept.lengths[w] - 1; i >= 0; i--) mirrors.turnRoot(rows, from, kept.letterOf(w, i));
        }

        private long imageAt(int w, int i, int k) {
            mirrors.startRoot(row, 0, i);
            turnBy(w, row, 0);
            return row[k];
        }

        private long inversionAt(int w, int i, int k) {
            int place = kept.lengths[w] - 1 - i;
            mirrors.startRoot(row, 0, kept.letterOf(w, place));
            for (int j = place + 1; j < kept.lengths[w]; j++) mirrors.turnRoot(row, 0, kept.letterOf(w, j));
            return row[k];
        }

        /** The letter that turns what START ROOT s has become below is the one that s can be exchanged for. */
        private int exchanged(int w, int s) {
            mirrors.startRoot(row, 0, s);
            for (int i = kept.lengths[w] - 1; i >= 0; i--) {
                int letter = kept.letterOf(w, i);
                mirrors.turnRoot(row, 0, letter);
                if (row[letter] < 0) return i;
            }
            return NONE;
        }

        private int orderOf(int w) {
            for (int i = 0; i < mirrors.many; i++) mirrors.startRoot(images, i * ROW, i);
            for (int times = 1; times <= MOST_TIMES; times++) {
                for (int i = 0; i < mirrors.many; i++) turnBy(w, images, i * ROW);
                if (imagesAreStart()) return times;
                if (imagesAreFar()) return NONE;
            }
            return NONE;
        }

        private boolean imagesAreStart() {
            for (int i = 0; i < mirrors.many; i++) {
                mirrors.startRoot(row, 0, i);
                if (!mirrors.sameRow(row, 0, images, i * ROW)) return false;
            }
            return true;
        }

        private boolean imagesAreFar() {
            for (int i = 0; i < mirrors.many; i++) {
                for (int k = 0; k < mirrors.many; k++) {
                    long number = images[i * ROW + k];
                    if (number > FAR || number < -FAR) return true;
                }
            }
            return false;
        }
    }

    /** Rows of weights with numbers from 0 on, each with a length; a row is found again by its hash. */
    private static final class Shelf {
        private final Mirrors mirrors;
        private final int most; // a power of 2, for the hash
        private int many = 0;
        private final long[] rows;
        private final int[] lengths;
        private final int[] slots;
        // A slot is in use only if the row it names stands on the shelf and names it too: so nothing need be wiped.
        private final int[] slotOf;

        private Shelf(Mirrors mirrors, int most) {
            this.mirrors = mirrors;
            this.most = most;
            rows = new long[most * ROW];
            lengths = new int[most];
            slots = new int[most * 2];
            slotOf = new int[most];
        }

        private void clear() {
            many = 0;
        }

        private boolean isBelow(int x, int s) {
            return rows[x * ROW + s] < 0;
        }

        /** The number of a row; one that is not there yet is put there with this length. NONE: no room. */
        private int numberOf(long[] row, int size) {
            int slot = slotFor(row);
            if (slot == NONE) return NONE;
            if (isUsed(slot)) return slots[slot];
            if (!putLast(row, size)) return NONE;
            slots[slot] = many - 1;
            slotOf[many - 1] = slot;
            return many - 1;
        }

        /** The number of a row, or NONE. */
        private int find(long[] row) {
            int slot = slotFor(row);
            return slot != NONE && isUsed(slot) ? slots[slot] : NONE;
        }

        /** Puts a row there that nobody looks for by its hash. */
        private boolean putLast(long[] row, int size) {
            if (many >= most) return false;
            mirrors.copyRow(row, 0, rows, many * ROW);
            lengths[many] = size;
            many++;
            return true;
        }

        private boolean isUsed(int slot) {
            int x = slots[slot];
            return x < many && slotOf[x] == slot;
        }

        /** The slot that has this row, or the free one where it would stand. */
        private int slotFor(long[] row) {
            int slot = hashOf(row);
            for (int tries = 0; tries < slots.length; tries++) {
                if (!isUsed(slot) || mirrors.sameRow(row, 0, rows, slots[slot] * ROW)) return slot;
                slot = slot + 1 < slots.length ? slot + 1 : 0;
            }
            return NONE;
        }

        private int hashOf(long[] row) {
            long hash = 0;
            for (int j = 0; j < mirrors.many; j++) hash = hash * 0x9E3779B97F4A7C15L + row[j];
            hash ^= hash >>> 32;
            return (int) hash & slots.length - 1;
        }
    }

    /** Elements length by length: all of the group from element 0 on, and a kept one's down to element 0. */
    private static final class Layers {
        private static final int MOST_COUNTED = 2000;
        private static final int MOST_LENGTH = 30;
        // Above 2000, and 2 to the 12: each beginning of a word of 12 letters turns other roots of its 12.
        private static final int MOST_ROWS = 4096;

        private final Mirrors mirrors;
        private final Kept kept;
        private final Shelf shelf;
        private final long[] row = new long[ROW];
        private final long[] ways = new long[MOST_ROWS];
        // How many elements have each length up to countedTo; from tooMany on they are over 2000 together.
        private final int[] counts = new int[MOST_LENGTH + 2];
        private int tooMany;
        private int all;
        private int countedTo = NONE;

        private Layers(Mirrors mirrors, Kept kept) {
            this.mirrors = mirrors;
            this.kept = kept;
            shelf = new Shelf(mirrors, MOST_ROWS);
        }

        private void forget() {
            countedTo = NONE;
        }

        private int countOfLength(int size) {
            countElements(size);
            return size >= tooMany ? LARGE : counts[size];
        }

        private int countAll() {
            countElements(MOST_LENGTH + 1);
            return isWhole() ? all : LARGE;
        }

        private int greatestLength() {
            countElements(MOST_LENGTH + 1);
            if (!isWhole()) return LARGE;
            int size = MOST_LENGTH;
            while (size > 0 && counts[size] == 0) size--;
            return size;
        }

        private boolean isWhole() {
            return tooMany > MOST_LENGTH + 1 && counts[MOST_LENGTH + 1] == 0;
        }

        /** Counts elements up to a length, unless that was done. */
        private void countElements(int longest) {
            if (longest <= countedTo) return;
            for (int i = 0; i < counts.length; i++) counts[i] = 0;
            shelf.clear();
            mirrors.startWeights(row, 0);
            shelf.putLast(row, 0);
            counts[0] = 1;
            for (int x = 0; x < shelf.many && shelf.many <= MOST_COUNTED; x++) {
                if (shelf.lengths[x] < longest) putLonger(x);
            }
            all = shelf.many;
            boolean over = all > MOST_COUNTED;
            tooMany = over ? shelf.lengths[all - 1] : counts.length;
            countedTo = over ? counts.length : longest;
        }

        /** Each element comes once: behind the one that its word leaves without its first letter. */
        private void putLonger(int x) {
            int size = shelf.lengths[x] + 1;
            for (int s = 0; s < mirrors.many; s++) {
                if (shelf.isBelow(x, s)) continue;
                mirrors.copyRow(shelf.rows, x * ROW, row, 0);
                mirrors.turnWeights(row, 0, s);
                if (mirrors.leastBelow(row, 0, mirrors.allMirrors()) == s && shelf.putLast(row, size)) counts[size]++;
            }
        }

        /** Each way from w down to element 0 on the right, letter by letter, is a least word. */
        private long countLeastWords(int w) {
            shelf.clear();
            mirrors.copyRow(kept.right, w * ROW, row, 0);
            shelf.numberOf(row, kept.lengths[w]);
            ways[0] = 1;
            for (int x = 0; x < shelf.many && x < MOST_ROWS; x++) {
                for (int s = 0; s < mirrors.many; s++) {
                    if (shelf.isBelow(x, s)) addWays(x, s);
                }
            }
            // Longer ones are put there ahead of shorter ones, so element 0 is the last.
            return shelf.many == 0 ? 0 : ways[shelf.many - 1];
        }

        private void addWays(int x, int s) {
            mirrors.copyRow(shelf.rows, x * ROW, row, 0);
            mirrors.turnWeights(row, 0, s);
            int before = shelf.many;
            int y = shelf.numberOf(row, shelf.lengths[x] - 1);
            if (y == NONE) return;
            if (y == before) ways[y] = 0;
            ways[y] += ways[x];
        }
    }

    /** The turned ones that an element comes to by shifts. */
    private static final class Shifts {
        private static final int MOST = 300;
        private static final int MOST_ROWS = 512;

        private final Mirrors mirrors;
        private final Kept kept;
        private final Shelf shelf;
        // Of each element on the shelf, which has its weights, what it makes of START ROOTS: both sides are needed.
        private final long[] images = new long[MOST * SQUARE];
        private final long[] row = new long[ROW];
        private int of = NONE;
        private boolean large;
        private int shortest;
        private int manyShortest;
        private int all;

        private Shifts(Mirrors mirrors, Kept kept) {
            this.mirrors = mirrors;
            this.kept = kept;
            shelf = new Shelf(mirrors, MOST_ROWS);
        }

        private void forget() {
            of = NONE;
        }

        private int tell(int w, int what) {
            if (of != w) {
                large = !walk(w);
                sum();
                of = w;
            }
            if (large) return LARGE;
            if (what == 0) return shortest;
            return what == 1 ? manyShortest : all;
        }

        private void sum() {
            all = shelf.many;
            shortest = MOST_LETTERS;
            for (int x = 0; x < all; x++) shortest = Math.min(shortest, shelf.lengths[x]);
            manyShortest = 0;
            for (int x = 0; x < all; x++) {
                if (shelf.lengths[x] == shortest) manyShortest++;
            }
        }

        /** Puts all that is come to on the shelf, or answers false, if that is too much. */
        private boolean walk(int w) {
            shelf.clear();
            mirrors.copyRow(kept.left, w * ROW, row, 0);
            shelf.numberOf(row, kept.lengths[w]);
            for (int i = 0; i < mirrors.many; i++) {
                mirrors.startRoot(images, i * ROW, i);
                for (int a = kept.lengths[w] - 1; a >= 0; a--) mirrors.turnRoot(images, i * ROW, kept.letterOf(w, a));
            }
            for (int x = 0; x < shelf.many && x < MOST; x++) {
                for (int s = 0; s < mirrors.many; s++) {
                    if (!step(x, s)) return false;
                }
            }
            return true;
        }

        /** Puts x turned by s on the shelf, if it is not longer; false: there is no room for it. */
        private boolean step(int x, int s) {
            int size = shelf.lengths[x] + weighRight(x, s);
            size += row[s] < 0 ? -1 : 1;
            if (size > shelf.lengths[x]) return true;
            mirrors.turnWeights(row, 0, s);
            if (shelf.many < MOST) {
                int before = shelf.many;
                if (shelf.numberOf(row, size) == before) drawImages(x, s, before);
                return true;
            }
            return shelf.find(row) != NONE;
        }

        /** The row gets the weights of x, s: by how much that is longer than x. */
        private int weighRight(int x, int s) {
            int root = x * SQUARE + s * ROW;
            int longer = 1;
            for (int j = 0; j < mirrors.many; j++) {
                long less = 0;
                for (int k = 0; k < mirrors.many; k++) less += mirrors.numbers[j * ROW + k] * images[root + k];
                row[j] = shelf.rows[x * ROW + j] - less;
                if (images[root + j] < 0) longer = -1;
            }
            return longer;
        }

        /** What s, x, s makes of START ROOTS. */
        private void drawImages(int x, int s, int y) {
            int root = x * SQUARE + s * ROW;
            for (int i = 0; i < mirrors.many; i++) {
                int from = x * SQUARE + i * ROW;
                int to = y * SQUARE + i * ROW;
                long part = mirrors.numbers[s * ROW + i];
                for (int k = 0; k < mirrors.many; k++) images[to + k] = images[from + k] - part * images[root + k];
                mirrors.turnRoot(images, to, s);
            }
        }
    }

    /**
     * R polynomials. By their rule R (u, w) is a sum over paths: u meets the letters of w from the last to the
     * first; one that is down on its right it must take (factor 1), another it may leave (q - 1) or take (q), and
     * it must come to element 0. With d as in the document and a letters taken upwards, d - 2 a are left: so R is
     * the sum over a of the number of such paths times q to the a times (q - 1) to the d - 2 a.
     */
    private static final class Paths {
        private final Mirrors mirrors;
        private final Kept kept;
        private final long[] rows = new long[(SHORT + 1) * ROW];
        private final int[] found = new int[SHORT + 1];

        private Paths(Mirrors mirrors, Kept kept) {
            this.mirrors = mirrors;
            this.kept = kept;
        }

        private int numberAt(int u, int w, int k) {
            int apart = kept.lengths[w] - kept.lengths[u];
            if (apart < 0 || k > apart) return 0;
            for (int a = 0; a <= SHORT; a++) found[a] = 0;
            mirrors.copyRow(kept.right, u * ROW, rows, kept.lengths[w] * ROW);
            walk(this, w, kept.lengths[w], kept.lengths[u], 0);
            int sum = 0;
            for (int a = 0; 2 * a <= apart; a++) sum += found[a] * powerAt(apart - 2 * a, k - a);
            return sum;
        }

        /** Counts paths from the element in row 'left', of this length, that has that many letters of w to meet. */
        private static void walk(Paths at, int w, int left, int size, int ups) {
            if (size > left || left > SHORT) return;
            if (left == 0) {
                at.found[ups]++;
                return;
            }
            int s = at.kept.letterOf(w, left - 1);
            int next = (left - 1) * ROW;
            boolean isDown = at.rows[left * ROW + s] < 0;
            at.mirrors.copyRow(at.rows, left * ROW, at.rows, next);
            if (!isDown) walk(at, w, left - 1, size, ups);
            at.mirrors.turnWeights(at.rows, next, s);
            walk(at, w, left - 1, isDown ? size - 1 : size + 1, isDown ? ups : ups + 1);
        }

        /** The number at q to the k of (q - 1) to the m. */
        private static int powerAt(int m, int k) {
            if (k < 0 || k > m) return 0;
            int number = (m - k) % 2 == 0 ? 1 : -1;
            for (int i = 1; i <= k; i++) number = number * (m - i + 1) / i;
            return number;
        }
    }

    /**
     * P polynomials: all elements below one (of 8 letters at most: 2 to the 8 words at most are left of its own),
     * and P of any two of them as far as it is needed, by the rule of Kazhdan and Lusztig: with s down on the
     * right of w and v = w, s:
     *   P (u, w) = P (us, v) + q P (u, v), if s is down on the right of u, else q P (us, v) + P (u, v),
     *   less the sum, over all z below v with s down on the right, of (LEANS of z on v) q^((l(w) - l(z)) / 2) P (u, z).
     *
     * A polynomial is packed into one long: its numbers are never below 0, and all together never above the 256
     * words that are left of 8 letters, so they do not meet; q to the 4 is the highest that comes up on the way.
     */
    private static final class Ideal {
        private static final int MOST = 256;
        private static final int BITS = 12;
        private static final int MASK = (1 << BITS) - 1;
        private static final int DEGREE = 4;
        private static final int UNSEEN = -2;

        private final Mirrors mirrors;
        private final Kept kept;
        private final Shelf shelf;
        private final long[] row = new long[ROW];
        private final int[] byMirror = new int[MOST * ROW];
        private final long[] packed = new long[MOST * MOST];
        private final boolean[] filled = new boolean[MOST];
        private int of = NONE;
        private int top;

        private Ideal(Mirrors mirrors, Kept kept) {
            this.mirrors = mirrors;
            this.kept = kept;
            shelf = new Shelf(mirrors, MOST);
        }

        private void forget() {
            of = NONE;
        }

        private int numberAt(int u, int k) {
            mirrors.copyRow(kept.right, u * ROW, row, 0);
            int x = shelf.find(row);
            return x == NONE || top == NONE ? 0 : coefficient(packed[top * MOST + x], k);
        }

        private int countRough() {
            if (top == NONE) return 0;
            int rough = 0;
            for (int x = 0; x < shelf.many; x++) {
                if (packed[top * MOST + x] != 1) rough++;
            }
            return rough;
        }

        private static int coefficient(long polynomial, int k) {
            return k < 0 || k > DEGREE ? 0 : (int) (polynomial >> BITS * k) & MASK;
        }

        /** Makes w the top, of whose polynomials the other calls tell. */
        private Ideal under(int w) {
            if (of == w) return this;
            gather(w);
            mirrors.copyRow(kept.right, w * ROW, row, 0);
            top = shelf.find(row);
            if (top != NONE) fill(this, top, SHORT);
            of = w;
            return this;
        }

        /** Puts all that is left of the word of w without some letters on the shelf, by its weights on the right. */
        private void gather(int w) {
            shelf.clear();
            mirrors.startWeights(row, 0);
            shelf.numberOf(row, 0);
            welcome(0);
            for (int i = 0; i < kept.lengths[w]; i++) {
                int s = kept.letterOf(w, i);
                int before = shelf.many;
                for (int x = 0; x < before; x++) join(x, s);
            }
        }

        private void join(int x, int s) {
            int before = shelf.many;
            mirrors.copyRow(shelf.rows, x * ROW, row, 0);
            mirrors.turnWeights(row, 0, s);
            int y = shelf.numberOf(row, shelf.lengths[x] + (shelf.isBelow(x, s) ? -1 : 1));
            if (y == NONE) return;
            if (y == before) welcome(y);
            byMirror[x * ROW + s] = y;
            byMirror[y * ROW + s] = x;
        }

        private void welcome(int x) {
            filled[x] = false;
            for (int s = 0; s < ROW; s++) byMirror[x * ROW + s] = UNSEEN;
        }

        /** The number of x, s; NONE: it is not below the top. */
        private int neighbour(int x, int s) {
            int known = byMirror[x * ROW + s];
            if (known != UNSEEN) return known;
            mirrors.copyRow(shelf.rows, x * ROW, row, 0);
            mirrors.turnWeights(row, 0, s);
            int y = shelf.find(row);
            byMirror[x * ROW + s] = y;
            if (y != NONE) byMirror[y * ROW + s] = x;
            return y;
        }

        /** Fills the row of P (u, w) for all u. It asks for rows of shorter elements only, so it goes 8 deep at most. */
        private static void fill(Ideal at, int w, int deeper) {
            if (at.filled[w] || deeper < 0) return;
            at.filled[w] = true;
            int s = at.mirrors.leastBelow(at.shelf.rows, w * ROW, at.mirrors.allMirrors());
            int v = s == NONE ? NONE : at.neighbour(w, s);
            if (v == NONE) {
                for (int u = 0; u < at.shelf.many; u++) at.packed[w * MOST + u] = u == w ? 1 : 0;
                return;
            }
            fill(at, v, deeper - 1);
            at.spread(w, v, s);
            for (int z = 0; z < at.shelf.many; z++) {
                int leaning = at.shelf.isBelow(z, s) ? at.leaningOf(z, v) : 0;
                if (leaning != 0) {
                    fill(at, z, deeper - 1);
                    at.lessen(w, z, leaning);
                }
            }
        }

        private void spread(int w, int v, int s) {
            for (int u = 0; u < shelf.many; u++) {
                int other = neighbour(u, s);
                long here = packed[v * MOST + u];
                long there = other == NONE ? 0 : packed[v * MOST + other];
                packed[w * MOST + u] = shelf.isBelow(u, s) ? there + (here << BITS) : here + (there << BITS);
            }
        }

        private int leaningOf(int z, int v) {
            int apart = shelf.lengths[v] - shelf.lengths[z];
            return apart < 0 || apart % 2 == 0 ? 0 : coefficient(packed[v * MOST + z], (apart - 1) / 2);
        }

        private void lessen(int w, int z, int leaning) {
            int shift = BITS * ((shelf.lengths[w] - shelf.lengths[z]) / 2);
            for (int u = 0; u < shelf.many; u++) packed[w * MOST + u] -= packed[z * MOST + u] * leaning << shift;
        }
    }
}
