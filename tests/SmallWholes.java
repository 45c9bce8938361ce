import java.util.ArrayList;
import java.util.Arrays;
import java.util.HashMap;
import java.util.List;
import java.util.Map;
import java.util.Set;
import java.util.TreeSet;

/**
 * The sentences of the document's Terms, from the first to the last, asked of the face alone and of everything: of all
 * groups with 40 ELEMENTS or less, all of them kept, and of all that stands below one word in other groups. What is due
 * is put together from turns(), number(), root() and the words themselves, so no list of answers is needed.
 */
public final class SmallWholes {
    private static final int NOT = -1003;
    private static int wrong = 0;
    private static int asked = 0;

    public static void main(String[] args) {
        String[] wholes = {"mirrors 1;", "mirrors 2;", "mirrors 2;013;", "mirrors 2;104;", "mirrors 2;016;", "mirrors 3;",
            "013;", "023;", "123;", "024;", "124;", "016;", "026;", "126;", "013;123;", "013;023;", "023;213;",
            "mirrors 4;", "mirrors 4;033;", "mirrors 4;124;", "mirrors 4;013;233;", "mirrors 4;023;133;", "mirrors 5;"};
        for (String text : wholes) new SmallWholes(text, null).checkAll();
        String[][] lowers = {
            {"mirrors 2;01never;", "01010101010101010101"}, {"mirrors 2;01never;", "1010101"}, {"013;023;123;", "120120"},
            {"01never;02never;12never;", "2021010"}, {"01never;026;123;", "0101202"}, {"014;124;", "1210121"},
            {"mirrors 4;013;123;133;", "301230"}, {"mirrors 4;013;123;233;", "201230"}, {"mirrors 4;024;124;324;", "2320232"},
            {"016;124;02never;", "2021010"}, {"mirrors 5;013;124;236;34never;", "4323434"},
            {"mirrors 5;01never;12never;23never;34never;", "2321232"}, {"mirrors 4;016;126;236;", "2321232"},
            {"mirrors 5;013;023;033;043;", "230132"},
            {"mirrors 4;01never;02never;03never;12never;13never;23never;", "3130101"}};
        for (String[] lower : lowers) new SmallWholes(lower[0], lower[1]).checkAll();
        System.out.println(wrong == 0 ? "all " + asked + " answers are as due" : wrong + " answers are not as due");
        if (wrong != 0) System.exit(1);
    }

    // ---- an object that keeps all of them, made anew when its calls come near 512

    private final String text;
    private final boolean whole;
    private final List<int[]> kept = new ArrayList<>();
    private MirrorRoots now = null;
    private int calls = 0;
    private int n;
    private int m;
    private int[][] a; // A (i, j)
    private long[][][] rows; // what START ROOTS become
    private int[][] words;
    private int[][] times; // w, s; -1 outside
    private boolean[][] below;
    private final Map<String, Integer> byRows = new HashMap<>();

    private SmallWholes(String text, String top) {
        this.text = text;
        whole = top == null;
        kept.add(new int[0]);
        n = begin(new MirrorRoots());
        a = new int[n][n];
        MirrorRoots x = new MirrorRoots();
        begin(x);
        for (int i = 0; i < n; i++) {
            for (int j = 0; j < n; j++) a[i][j] = x.number(i, j);
        }
        gather(top);
        m = kept.size();
        readAll();
    }

    private int begin(MirrorRoots x) {
        for (int i = 0; i < text.length(); i += 4) {
            int k = Math.min(4, text.length() - i);
            long bytes = 0;
            for (int j = 0; j < k; j++) bytes = bytes << 8 | text.charAt(i + j);
            x.feed(k, bytes);
        }
        return x.read();
    }

    /** Words of all ELEMENTS, each once: behind one that was found a letter more, or letters of the top left out. */
    private void gather(String top) {
        Set<String> seen = new TreeSet<>(List.of(Arrays.deepToString(turned(new int[0]))));
        for (int i = 0; whole && i < kept.size(); i++) {
            for (int s = 0; s < n; s++) add(seen, joined(kept.get(i), s));
        }
        for (int place = 0; !whole && place < top.length(); place++) {
            for (int i = kept.size() - 1; i >= 0; i--) add(seen, joined(kept.get(i), top.charAt(place) - '0'));
        }
        if (kept.size() > 40) throw new IllegalStateException(text + " has " + kept.size() + " of them");
    }

    private void add(Set<String> seen, int[] word) {
        if (seen.add(Arrays.deepToString(turned(word)))) kept.add(word);
    }

    private static int[] joined(int[] word, int... more) {
        int[] out = Arrays.copyOf(word, word.length + more.length);
        System.arraycopy(more, 0, out, word.length, more.length);
        return out;
    }

    private static int[] without(int[] word, int place) {
        return joined(Arrays.copyOf(word, place), Arrays.copyOfRange(word, place + 1, word.length));
    }

    /** MIRRORS turn START ROOTS, from the last one of the word to its first. */
    private long[][] turned(int[] word) {
        long[][] out = new long[n][n];
        for (int i = 0; i < n; i++) {
            out[i][i] = 1;
            for (int k = word.length - 1; k >= 0; k--) turn(out[i], word[k]);
        }
        return out;
    }

    private void turn(long[] row, int i) {
        long sum = 0;
        for (int j = 0; j < n; j++) sum += a[i][j] * row[j];
        row[i] -= sum;
    }

    private MirrorRoots x() {
        asked++;
        if (now == null || calls >= 500) keepAll();
        calls++;
        return now;
    }

    private void keepAll() {
        now = new MirrorRoots();
        begin(now);
        calls = text.length() / 4 + 2;
        for (int w = 0; w < kept.size(); w++) {
            for (int s : kept.get(w)) now.letter(s);
            due("keep() of " + Arrays.toString(kept.get(w)), now.keep(), w);
            calls += kept.get(w).length + 1;
        }
        if (calls > 480) throw new IllegalStateException("too many calls to keep all");
    }

    private void due(String call, long got, long want) {
        if (got == want) return;
        wrong++;
        if (wrong < 40) System.out.println("'" + text + "': " + call + " answered " + got + ", due is " + want);
    }

    private void readAll() {
        rows = new long[m][n][n];
        words = new int[m][];
        for (int w = 0; w < m; w++) {
            for (int i = 0; i < n; i++) {
                for (int k = 0; k < n; k++) rows[w][i][k] = x().root(w, i, k);
            }
            words[w] = new int[x().length(w)];
            for (int i = 0; i < words[w].length; i++) words[w][i] = x().at(w, i);
            Integer twin = byRows.put(Arrays.deepToString(rows[w]), w);
            if (twin != null) due("two ELEMENTS that turn alike: " + twin + " and", w, twin);
        }
        times = new int[m][n];
        below = new boolean[m][m];
        for (int w = 0; w < m; w++) {
            for (int s = 0; s < n; s++) times[w][s] = numberOf(turned(joined(words[w], s)));
        }
        for (int w = 0; w < m; w++) {
            for (int u : leftOf(words[w])) below[u][w] = true;
        }
    }

    private int numberOf(long[][] turned) { return byRows.getOrDefault(Arrays.deepToString(turned), -1); }
    private int numberOf(int... word) { return numberOf(turned(word)); }
    private int length(int w) { return words[w].length; }

    /** The ELEMENTS of a word with some letters left out. */
    private Set<Integer> leftOf(int[] word) {
        Set<Integer> all = new TreeSet<>(List.of(0));
        for (int s : word) {
            for (int u : all.toArray(new Integer[0])) all.add(times[u][s]);
        }
        if (all.contains(-1)) throw new IllegalStateException("not all kept below " + Arrays.toString(word));
        return all;
    }

    private static int[] reversed(int[] word) {
        int[] out = new int[word.length];
        for (int i = 0; i < word.length; i++) out[i] = word[word.length - 1 - i];
        return out;
    }

    private static boolean isBelow(long[] row) {
        boolean some = false;
        for (long number : row) {
            if (number > 0) return false;
            if (number < 0) some = true;
        }
        return some;
    }

    private void checkAll() {
        checkTurns();
        checkRoots();
        checkWords();
        checkDown();
        if (whole) checkProducts();
        checkOrder();
        checkExchange();
        checkInversions();
        if (whole) checkCosets();
        if (whole) checkGrowth();
        checkOrders();
        checkShifts();
        checkR();
        checkP();
    }

    // ---- 1

    private void checkTurns() {
        due("count(0)", x().count(0), n);
        due("count(1)", x().count(1), m);
        for (int i = 0; i < n; i++) {
            for (int j = 0; j < n; j++) {
                int turns = x().turns(i, j);
                due("turns(" + j + ", " + i + ")", x().turns(j, i), turns);
                // So often i, j must be done till all is as before; never of those that never turn back.
                int[] word = new int[0];
                int least = 0;
                for (int k = 1; k <= 12 && least == 0; k++) {
                    word = joined(word, i, j);
                    if (Arrays.deepEquals(turned(word), rows[0])) least = k;
                }
                due("turns(" + i + ", " + j + ")", turns, least);
            }
        }
    }

    private void checkRoots() {
        for (int w = 0; w < m; w++) {
            long[][] due = turned(words[w]), told = turned(kept.get(w));
            for (int i = 0; i < n; i++) {
                boolean above = false, under = false;
                for (int k = 0; k < n; k++) {
                    due("root(" + w + ", " + i + ", " + k + ")", rows[w][i][k], due[i][k]);
                    due("root(" + w + ", " + i + ", " + k + ")", rows[w][i][k], told[i][k]);
                    above |= rows[w][i][k] > 0;
                    under |= rows[w][i][k] < 0;
                }
                due("numbers of root(" + w + ", " + i + ") above and below 0", above == under ? 1 : 0, 0);
            }
        }
    }

    /** LENGTHS by steps from ELEMENT 0; THE WORD: of all with a letter behind the first word of a shorter one. */
    private void checkWords() {
        int[] steps = new int[m];
        String[] first = new String[m];
        Arrays.fill(steps, -1);
        steps[0] = 0;
        first[0] = "";
        for (int l = 0; l < 20; l++) {
            for (int w = 0; w < m; w++) {
                for (int s = 0; s < n && steps[w] == l; s++) {
                    int y = times[w][s];
                    if (y < 0 || steps[y] >= 0 && steps[y] <= l) continue;
                    String word = first[w] + s;
                    if (steps[y] < 0 || word.compareTo(first[y]) < 0) first[y] = word;
                    steps[y] = l + 1;
                }
            }
        }
        for (int w = 0; w < m; w++) {
            due("length(" + w + ")", x().length(w), steps[w]);
            StringBuilder word = new StringBuilder();
            for (int s : words[w]) word.append(s);
            due("letters of " + w + " are those of " + first[w], word.toString().equals(first[w]) ? 1 : 0, 1);
            due("at(" + w + ", length)", x().at(w, steps[w]), -1);
        }
    }

    private void checkDown() {
        for (int w = 0; w < m; w++) {
            long[][] back = turned(reversed(words[w]));
            int left = 0, right = 0;
            for (int s = 0; s < n; s++) {
                if (isBelow(rows[w][s])) right |= 1 << s;
                if (isBelow(back[s])) left |= 1 << s;
                int y = times[w][s];
                if (y >= 0) due("LENGTH of " + w + ", " + s, length(y), length(w) + (isBelow(rows[w][s]) ? -1 : 1));
            }
            due("down(" + w + ", 0)", x().down(w, 0), left);
            due("down(" + w + ", 1)", x().down(w, 1), right);
            int there = numberOf(back);
            if (there >= 0) due("back(" + w + ")", x().back(w), there);
        }
    }

    private void checkProducts() {
        for (int u = 0; u < m; u++) {
            for (int w = 0; w < m; w++) due("times(" + u + ", " + w + ")", x().times(u, w), numberOf(joined(words[u], words[w])));
            due("times(back, " + u + ")", x().times(x().back(u), u), 0);
        }
        due("count(1)", x().count(1), m);
    }

    // ---- 2

    private void checkOrder() {
        long[] least = new long[m];
        for (int l = 0; l <= 20; l++) {
            for (int w = 0; w < m; w++) {
                if (length(w) != l) continue;
                int covers = 0;
                for (int u = 0; u < m; u++) {
                    due("below(" + u + ", " + w + ")", x().below(u, w), below[u][w] ? 1 : 0);
                    if (below[u][w] && length(u) == l - 1) covers++;
                }
                due("covers(" + w + ")", x().covers(w), covers);
                least[w] = l == 0 ? 1 : 0;
                for (int s = 0; s < n; s++) {
                    if (times[w][s] >= 0 && length(times[w][s]) == l - 1) least[w] += least[times[w][s]];
                }
                due("words(" + w + ")", x().words(w), l > 12 ? -1005 : least[w]);
            }
        }
    }

    private void checkExchange() {
        for (int w = 0; w < m; w++) {
            for (int s = 0; s < n; s++) {
                int place = NOT;
                for (int i = 0; i < length(w) && isBelow(rows[w][s]); i++) {
                    if (!Arrays.deepEquals(turned(without(words[w], i)), turned(joined(words[w], s)))) continue;
                    due("places of " + w + " for " + s, place, NOT);
                    place = i;
                }
                due("exchange(" + w + ", " + s + ")", x().exchange(w, s), place);
            }
        }
    }

    private void checkInversions() {
        for (int w = 0; w < m; w++) {
            Set<String> told = new TreeSet<>();
            for (int i = 0; i < length(w); i++) {
                long[] root = new long[n], due = new long[n];
                int place = length(w) - 1 - i;
                due[words[w][place]] = 1;
                for (int j = place + 1; j < length(w); j++) turn(due, words[w][j]);
                for (int k = 0; k < n; k++) root[k] = x().inversion(w, i, k);
                due("row " + i + " of INVERSIONS of " + w, Arrays.equals(root, due) ? 1 : 0, 1);
                told.add(Arrays.toString(root));
            }
            for (int k = 0; k < n; k++) due("inversion(" + w + ", LENGTH, " + k + ")", x().inversion(w, length(w), k), 0);
            if (whole) due("INVERSIONS of " + w + " are all of them", told.equals(allTurnedBelow(w)) ? 1 : 0, 1);
        }
    }

    private Set<String> allTurnedBelow(int w) {
        Set<String> all = new TreeSet<>();
        for (long[][] of : rows) {
            for (long[] root : of) {
                long[] turned = root.clone();
                for (int j = length(w) - 1; j >= 0; j--) turn(turned, words[w][j]);
                if (!isBelow(root) && isBelow(turned)) all.add(Arrays.toString(root));
            }
        }
        return all;
    }

    // ---- 3

    /** All w, v with v WORDS of a SET, or v, w. */
    private Set<Integer> coset(Set<Integer> start, int set, boolean onTheLeft) {
        Set<Integer> all = new TreeSet<>(start);
        List<Integer> open = new ArrayList<>(all);
        for (int i = 0; i < open.size(); i++) {
            for (int s = 0; s < n; s++) {
                int w = open.get(i);
                if ((set >> s & 1) == 0) continue;
                int y = onTheLeft ? numberOf(joined(new int[] {s}, words[w])) : times[w][s];
                if (all.add(y)) open.add(y);
            }
        }
        return all;
    }

    private int shortest(Set<Integer> all) {
        int best = -1;
        for (int w : all) if (best < 0 || length(w) < length(best)) best = w;
        return best;
    }

    private void checkCosets() {
        for (int set = 0; set < 1 << n; set++) {
            Set<Integer> ofSet = coset(Set.of(0), set, false);
            for (int w = 0; w < m; w++) {
                Set<Integer> all = coset(Set.of(w), set, false);
                int least = shortest(all), rest = x().coset(w, set, 1);
                due("coset(" + w + ", " + set + ", 0)", x().coset(w, set, 0), least);
                due("coset(" + w + ", " + set + ", 1) is of the SET", ofSet.contains(rest) ? 1 : 0, 1);
                due("LEAST, coset(" + w + ", " + set + ", 1)", numberOf(joined(words[least], words[rest])), w);
                for (int left = 0; left < 1 << n; left++) {
                    int want = n < 4 || left % 5 == 1 ? length(shortest(coset(all, left, true))) : -1;
                    if (want >= 0) due("both(" + w + ", " + left + ", " + set + ")", x().both(w, left, set), want);
                }
            }
        }
    }

    private void checkGrowth() {
        int[] counts = new int[21];
        int longest = 0;
        for (int w = 0; w < m; w++) {
            counts[length(w)]++;
            longest = Math.max(longest, length(w));
        }
        for (int l = 0; l <= 20; l++) due("growth(" + l + ")", x().growth(l), counts[l]);
        due("whole(0)", x().whole(0), m);
        due("whole(1)", x().whole(1), longest);
    }

    private void checkOrders() {
        for (int w = 0; w < m; w++) {
            if (length(w) > 8) continue;
            int[] often = new int[0];
            int least = -1;
            for (int k = 1; k <= 30 && least < 0; k++) {
                often = joined(often, words[w]);
                if (Arrays.deepEquals(turned(often), rows[0])) least = k;
            }
            due("order(" + w + ")", x().order(w), least);
        }
    }

    private void checkShifts() {
        for (int w = 0; w < m; w++) {
            List<Integer> come = new ArrayList<>(List.of(w));
            boolean outside = false;
            int best = length(w);
            for (int i = 0; i < come.size(); i++) {
                int y = come.get(i);
                best = Math.min(best, length(y));
                for (int s = 0; s < n; s++) {
                    int[] word = joined(joined(new int[] {s}, words[y]), s);
                    int z = numberOf(word);
                    if (z < 0) outside |= lengthOf(word) <= length(y);
                    else if (length(z) <= length(y) && !come.contains(z)) come.add(z);
                }
            }
            // Below one word not all that is come to is known; then others of the tests ask for it.
            if (outside) continue;
            int many = 0;
            for (int y : come) if (length(y) == best) many++;
            due("shifts(" + w + ", 0)", x().shifts(w, 0), best);
            due("shifts(" + w + ", 1)", x().shifts(w, 1), many);
            due("shifts(" + w + ", 2)", x().shifts(w, 2), come.size());
        }
    }

    private int lengthOf(int[] word) {
        int l = 0;
        for (int i = 0; i < word.length; i++) l += isBelow(turned(Arrays.copyOf(word, i))[word[i]]) ? -1 : 1;
        return l;
    }

    // ---- 4

    private static final int MOST = 10;
    private int[][][] r;
    private int[][][] p;

    private interface Number { int at(int u, int w, int k); }

    private int[][][] readPolynomials(Number number) {
        int[][][] out = new int[m][m][MOST];
        for (int u = 0; u < m; u++) {
            for (int w = 0; w < m; w++) {
                for (int k = 0; k < MOST && length(w) <= 8; k++) {
                    out[u][w][k] = below[u][w] || k < 2 ? number.at(u, w, k) : 0;
                }
            }
        }
        return out;
    }

    private static int[] sum(int[] p, int factor, int[] q, int shift) {
        int[] out = p.clone();
        for (int k = 0; k + shift < MOST; k++) out[k + shift] += factor * q[k];
        return out;
    }

    private void checkR() {
        r = readPolynomials((u, w, k) -> x().r(u, w, k));
        for (int u = 0; u < m; u++) {
            for (int w = 0; w < m; w++) {
                if (length(w) > 8) continue;
                int[] due = new int[MOST];
                if (u == w) {
                    due[0] = 1;
                } else if (below[u][w]) {
                    int s = 0;
                    while (!isBelow(rows[w][s])) s++;
                    int us = times[u][s], ws = times[w][s];
                    // What is not kept is not below w, so not below w, s either.
                    int[] lower = us < 0 ? new int[MOST] : r[us][ws];
                    if (isBelow(rows[u][s])) due = lower;
                    else due = sum(sum(sum(due, 1, r[u][ws], 1), -1, r[u][ws], 0), 1, lower, 1);
                }
                due("r(" + u + ", " + w + ") by its rule", Arrays.equals(r[u][w], due) ? 1 : 0, 1);
            }
        }
    }

    private void checkP() {
        p = readPolynomials((u, w, k) -> x().p(u, w, k));
        int[] one = new int[MOST];
        one[0] = 1;
        for (int w = 0; w < m; w++) {
            if (length(w) > 8) continue;
            int rough = 0;
            for (int u = 0; u < m; u++) {
                int d = length(w) - length(u);
                int leans = d > 0 && d % 2 == 1 ? p[u][w][(d - 1) / 2] : 0;
                due("leans(" + u + ", " + w + ")", x().leans(u, w), leans);
                if (below[u][w] && !Arrays.equals(p[u][w], one)) rough++;
                if (!below[u][w]) due("p(" + u + ", " + w + ") is 0", Arrays.equals(p[u][w], new int[MOST]) ? 1 : 0, 1);
                else if (u == w) due("p(" + w + ", " + w + ") is 1", Arrays.equals(p[u][w], one) ? 1 : 0, 1);
                else checkEquation(u, w, d);
            }
            due("rough(" + w + ")", x().rough(w), rough);
        }
    }

    private void checkEquation(int u, int w, int d) {
        int[] turnedOver = new int[MOST], sum = new int[MOST];
        for (int k = 0; k < MOST; k++) {
            if (k > (d - 1) / 2) due("p(" + u + ", " + w + ", " + k + "), above its degree", p[u][w][k], 0);
            else turnedOver[d - k] = p[u][w][k];
        }
        for (int v = 0; v < m; v++) {
            if (!below[u][v] || !below[v][w]) continue;
            for (int k = 0; k < MOST; k++) sum = sum(sum, r[u][v][k], p[v][w], k);
        }
        due("p(" + u + ", " + w + ") by its equation", Arrays.equals(sum, turnedOver) ? 1 : 0, 1);
    }
}
