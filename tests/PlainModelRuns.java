import java.util.ArrayDeque;
import java.util.ArrayList;
import java.util.Arrays;
import java.util.HashMap;
import java.util.LinkedHashMap;
import java.util.List;
import java.util.Map;
import java.util.Random;

/**
 * Random runs of calls (the same ones each time), compared with a plain model that follows the document's
 * words one by one, with whole matrices and sets, however slow that is.
 */
public final class PlainModelRuns {
    private static int wrong = 0;
    private static int compared = 0;

    public static void main(String[] args) {
        int runs = args.length > 0 ? Integer.parseInt(args[0]) : 100;
        long seed = args.length > 1 ? Long.parseLong(args[1]) : 1;
        for (String text : new String[] {"013;123;", "014;123;", "012;126;", "013;123;023;", "01never;023;", "mirrors 4;013;123;133;", "mirrors 5;014;233;34never;"}) {
            checkFirstWords(text);
        }
        for (int run = 0; run < runs && wrong < 20; run++) new Run(seed * 1000003L + run).go();
        System.out.println(wrong == 0 ? compared + " answers are as due" : wrong + " answers are not as due");
        if (wrong != 0) System.exit(1);
    }

    /** All words in their order: the first one of each element must be told as its word. */
    private static void checkFirstWords(String text) {
        Plain model = new Plain();
        for (char c : text.toCharArray()) model.feed(1, c);
        model.read();
        Map<String, int[]> first = new LinkedHashMap<>();
        List<int[]> layer = new ArrayList<>(List.of(new int[0]));
        while (!layer.isEmpty() && first.size() < 400) {
            List<int[]> next = new ArrayList<>();
            for (int[] word : layer) {
                if (first.putIfAbsent(model.key(model.matrix(word)), word) != null) continue;
                for (int s = 0; s < model.n; s++) next.add(model.joined(word, new int[] {s}));
            }
            layer = next;
        }
        Random random = new Random(9);
        for (int[] word : first.values()) {
            MirrorRoots x = new MirrorRoots();
            for (char c : text.toCharArray()) x.feed(1, c);
            x.read();
            // Some other word of the same element, two letters longer.
            int s = random.nextInt(model.n);
            int cut = random.nextInt(word.length + 1);
            for (int i = 0; i < cut; i++) x.letter(word[i]);
            x.letter(s);
            x.letter(s);
            for (int i = cut; i < word.length; i++) x.letter(word[i]);
            int w = x.keep();
            boolean same = x.length(w) == word.length;
            for (int i = 0; i < word.length; i++) same &= x.at(w, i) == word[i];
            compared++;
            if (same) continue;
            wrong++;
            System.out.println(text + ": the word of " + Arrays.toString(word) + " is another one");
        }
    }

    /** The document, plainly. An element is a matrix: row i is what START ROOT i becomes. */
    static final class Plain {
        int n = 3;
        int[][] turns = {{1, 3, 2}, {3, 1, 3}, {2, 3, 1}};
        final List<int[]> elements = new ArrayList<>(); // THE WORDs
        final List<Integer> draft = new ArrayList<>();
        StringBuilder text = new StringBuilder();
        int faultAt = -1;
        final Map<String, Map<String, int[]>> polynomials = new HashMap<>();

        Plain() { elements.add(new int[0]); }

        int a(int i, int j) {
            if (i == j) return 2;
            switch (turns[i][j]) {
                case 2: return 0;
                case 3: return -1;
                case 4: return i < j ? -2 : -1;
                case 6: return i < j ? -3 : -1;
                default: return -2;
            }
        }

        // ---- matrices
        void turn(long[] v, int i) {
            long sum = 0;
            for (int j = 0; j < n; j++) sum += a(i, j) * v[j];
            v[i] -= sum;
        }

        long[][] matrix(int[] word) {
            long[][] m = new long[n][n];
            for (int i = 0; i < n; i++) {
                m[i][i] = 1;
                for (int k = word.length - 1; k >= 0; k--) turn(m[i], word[k]);
            }
            return m;
        }

        long[][] behind(long[][] m, int s) { // m, s
            long[][] out = new long[n][n];
            for (int j = 0; j < n; j++)
                for (int k = 0; k < n; k++) out[j][k] = m[j][k] - a(s, j) * m[s][k];
            return out;
        }

        long[][] ahead(long[][] m, int s) { // s, m
            long[][] out = new long[n][];
            for (int j = 0; j < n; j++) {
                out[j] = m[j].clone();
                turn(out[j], s);
            }
            return out;
        }

        boolean isBelow(long[] row) {
            boolean some = false;
            for (long x : row) {
                if (x > 0) return false;
                if (x < 0) some = true;
            }
            return some;
        }

        String key(long[][] m) { return Arrays.deepToString(m); }

        int[] anyLeastWord(long[][] m) {
            List<Integer> letters = new ArrayList<>();
            boolean more = true;
            while (more) {
                more = false;
                for (int s = 0; s < n && !more; s++) {
                    if (isBelow(m[s])) {
                        letters.add(0, s);
                        m = behind(m, s);
                        more = true;
                    }
                }
            }
            return letters.stream().mapToInt(x -> x).toArray();
        }

        int size(long[][] m) { return anyLeastWord(m).length; }

        int[] reversed(int[] w) {
            int[] out = new int[w.length];
            for (int i = 0; i < w.length; i++) out[i] = w[w.length - 1 - i];
            return out;
        }

        int[] joined(int[] u, int[] w) {
            int[] out = Arrays.copyOf(u, u.length + w.length);
            System.arraycopy(w, 0, out, u.length, w.length);
            return out;
        }

        /** THE WORD: the least first letter with which a shortest word can begin, and so on. */
        int[] theWord(long[][] m) {
            int l = size(m);
            int[] out = new int[l];
            for (int i = 0; i < l; i++) {
                for (int s = 0; s < n; s++) {
                    long[][] rest = ahead(m, s);
                    if (size(rest) == l - i - 1) {
                        out[i] = s;
                        m = rest;
                        break;
                    }
                }
            }
            return out;
        }

        long[][] of(int w) { return matrix(elements.get(w)); }
        boolean known(int w) { return w >= 0 && w < elements.size(); }
        boolean mirror(int s) { return s >= 0 && s < n; }

        int keepMatrix(long[][] m) {
            int[] word = theWord(m);
            for (int i = 0; i < elements.size(); i++) if (Arrays.equals(word, elements.get(i))) return i;
            if (elements.size() == 40) return -1004;
            elements.add(word);
            return elements.size() - 1;
        }

        // ---- the group
        int feed(int k, long bytes) {
            if (k < 1 || k > 8) return -1002;
            if (text.length() + k > 120) return -1004;
            for (int i = k - 1; i >= 0; i--) text.append((char) ((bytes >>> (8 * i)) & 0xff));
            return text.length();
        }

        int read() {
            Parser parser = new Parser(text.toString());
            text = new StringBuilder();
            parser.parse();
            faultAt = parser.at;
            if (parser.kind != 0) return -10 - parser.kind;
            n = parser.n;
            turns = new int[n][n];
            for (int i = 0; i < n; i++)
                for (int j = 0; j < n; j++)
                    turns[i][j] = i == j ? 1 : parser.pairs.getOrDefault(Math.min(i, j) * 10 + Math.max(i, j), 2);
            elements.clear();
            elements.add(new int[0]);
            draft.clear();
            polynomials.clear();
            return n;
        }

        int fault() { return faultAt; }
        int turns(int i, int j) { return mirror(i) && mirror(j) ? turns[i][j] : -1002; }
        int number(int i, int j) { return mirror(i) && mirror(j) ? a(i, j) : -1002; }

        int count(int what) {
            return what == 0 ? n : what == 1 ? elements.size() : what == 2 ? text.length() : what == 3 ? draft.size() : -1002;
        }

        // ---- words, elements
        int letter(int s) {
            if (!mirror(s)) return -1002;
            if (draft.size() == 20) return -1004;
            draft.add(s);
            return draft.size();
        }

        int keep() {
            int number = keepMatrix(matrix(draft.stream().mapToInt(x -> x).toArray()));
            if (number != -1004) draft.clear();
            return number;
        }

        int length(int w) { return known(w) ? elements.get(w).length : -1001; }

        int at(int w, int i) {
            if (!known(w)) return -1001;
            return i >= 0 && i < length(w) ? elements.get(w)[i] : -1;
        }

        int down(int w, int what) {
            if (!known(w)) return -1001;
            if (what != 0 && what != 1) return -1002;
            long[][] m = what == 1 ? of(w) : matrix(reversed(elements.get(w)));
            int set = 0;
            for (int s = 0; s < n; s++) if (isBelow(m[s])) set |= 1 << s;
            return set;
        }

        long root(int w, int i, int k) {
            if (!known(w)) return -1001;
            if (!mirror(i) || !mirror(k)) return -1002;
            return of(w)[i][k];
        }

        int times(int u, int w) {
            if (!known(u) || !known(w)) return -1001;
            long[][] m = of(u);
            for (int s : elements.get(w)) {
                m = behind(m, s);
                if (size(m) > 20) return -1005;
            }
            return keepMatrix(m);
        }

        int back(int w) { return known(w) ? keepMatrix(matrix(reversed(elements.get(w)))) : -1001; }

        // ---- order, least words
        /** All that is left of a word with some letters left out. */
        Map<String, long[][]> leftOf(int[] word) {
            Map<String, long[][]> all = new LinkedHashMap<>();
            long[][] one = matrix(new int[0]);
            all.put(key(one), one);
            for (int s : word) {
                for (long[][] m : new ArrayList<>(all.values())) {
                    long[][] next = behind(m, s);
                    all.put(key(next), next);
                }
            }
            return all;
        }

        int below(int u, int w) {
            if (!known(u) || !known(w)) return -1001;
            return leftOf(elements.get(w)).containsKey(key(of(u))) ? 1 : 0;
        }

        int covers(int w) {
            if (!known(w)) return -1001;
            int[] word = elements.get(w);
            Map<String, Boolean> found = new HashMap<>();
            for (int i = 0; i < word.length; i++) {
                int[] rest = joined(Arrays.copyOf(word, i), Arrays.copyOfRange(word, i + 1, word.length));
                long[][] m = matrix(rest);
                if (size(m) == word.length - 1) found.put(key(m), true);
            }
            return found.size();
        }

        long words(int w) {
            if (!known(w)) return -1001;
            if (length(w) > 12) return -1005;
            return leastWords(of(w), length(w));
        }

        long leastWords(long[][] m, int l) {
            if (l == 0) return 1;
            long sum = 0;
            for (int s = 0; s < n; s++) if (isBelow(m[s])) sum += leastWords(behind(m, s), l - 1);
            return sum;
        }

        int exchange(int w, int s) {
            if (!known(w)) return -1001;
            if (!mirror(s)) return -1002;
            long[][] m = of(w);
            if (!isBelow(m[s])) return -1003;
            int[] word = elements.get(w);
            String due = key(behind(m, s));
            for (int i = 0; i < word.length; i++) {
                int[] rest = joined(Arrays.copyOf(word, i), Arrays.copyOfRange(word, i + 1, word.length));
                if (key(matrix(rest)).equals(due)) return i;
            }
            throw new IllegalStateException("no exchange");
        }

        long inversion(int w, int i, int k) {
            if (!known(w)) return -1001;
            if (!mirror(k)) return -1002;
            int[] word = elements.get(w);
            if (i < 0 || i >= word.length) return 0;
            int place = word.length - 1 - i;
            long[] v = new long[n];
            v[word[place]] = 1;
            for (int j = place + 1; j < word.length; j++) turn(v, word[j]);
            long[] turned = v.clone();
            for (int j = word.length - 1; j >= 0; j--) turn(turned, word[j]);
            if (!isBelow(turned)) throw new IllegalStateException("not an inversion");
            return v[k];
        }

        // ---- cosets, growth
        /** All of a coset, one-sided or both-sided, that is not longer than w. */
        List<long[][]> coset(long[][] start, int left, int right) {
            int l = size(start);
            Map<String, long[][]> seen = new LinkedHashMap<>();
            ArrayDeque<long[][]> queue = new ArrayDeque<>();
            seen.put(key(start), start);
            queue.add(start);
            while (!queue.isEmpty()) {
                long[][] m = queue.remove();
                for (int s = 0; s < n; s++) {
                    for (int side = 0; side < 2; side++) {
                        if (((side == 0 ? left : right) >> s & 1) == 0) continue;
                        long[][] next = side == 0 ? ahead(m, s) : behind(m, s);
                        if (size(next) <= l && seen.putIfAbsent(key(next), next) == null) queue.add(next);
                    }
                }
                if (seen.size() > 3000) return null;
            }
            return new ArrayList<>(seen.values());
        }

        long[][] shortest(List<long[][]> all) {
            long[][] best = all.get(0);
            for (long[][] m : all) if (size(m) < size(best)) best = m;
            return best;
        }

        /** Null where the model would have to look at too many. */
        Integer coset(int w, int set, int what) {
            if (!known(w)) return -1001;
            if (set < 0 || set >= 1 << n || what < 0 || what > 1) return -1002;
            List<long[][]> all = coset(of(w), 0, set);
            if (all == null) return null;
            long[][] least = shortest(all);
            if (what == 0) return keepMatrix(least);
            return keepMatrix(matrix(joined(reversed(anyLeastWord(least)), elements.get(w))));
        }

        Integer both(int w, int left, int right) {
            if (!known(w)) return -1001;
            if (left < 0 || left >= 1 << n || right < 0 || right >= 1 << n) return -1002;
            List<long[][]> all = coset(of(w), left, right);
            return all == null ? null : (Integer) size(shortest(all));
        }

        /** Elements by length, up to a length or until there are more than 2000. */
        List<Integer> layers(int most) {
            List<Integer> counts = new ArrayList<>();
            Map<String, long[][]> layer = new HashMap<>();
            Map<String, long[][]> before = new HashMap<>();
            long[][] one = matrix(new int[0]);
            layer.put(key(one), one);
            int sum = 0;
            for (int l = 0; l <= most && sum <= 2000; l++) {
                counts.add(layer.size());
                sum += layer.size();
                Map<String, long[][]> next = new HashMap<>();
                for (long[][] m : layer.values()) {
                    for (int s = 0; s < n; s++) {
                        long[][] x = behind(m, s);
                        if (!before.containsKey(key(x))) next.put(key(x), x);
                    }
                }
                before = layer;
                layer = next;
            }
            return counts;
        }

        int growth(int l) {
            if (l < 0 || l > 20) return -1002;
            List<Integer> counts = layers(l);
            return counts.stream().mapToInt(x -> x).sum() > 2000 ? -1005 : counts.get(l);
        }

        int whole(int what) {
            if (what < 0 || what > 1) return -1002;
            List<Integer> counts = layers(31);
            int sum = counts.stream().mapToInt(x -> x).sum();
            if (sum > 2000 || counts.get(31) > 0) return -1005;
            int greatest = 0;
            for (int l = 0; l < counts.size(); l++) if (counts.get(l) > 0) greatest = l;
            return what == 0 ? sum : greatest;
        }

        int order(int w) {
            if (!known(w)) return -1001;
            int[] word = elements.get(w);
            if (word.length > 8) return -1005;
            long[][] m = matrix(new int[0]);
            String one = key(m);
            for (int k = 1; k <= 30; k++) {
                boolean far = false;
                for (int i = 0; i < n; i++) {
                    for (int j = word.length - 1; j >= 0; j--) turn(m[i], word[j]);
                    for (long x : m[i]) if (Math.abs(x) > 1_000_000_000_000L) far = true;
                }
                if (key(m).equals(one)) return k;
                if (far) return -1;
            }
            return -1;
        }

        int shifts(int w, int what) {
            if (!known(w)) return -1001;
            if (what < 0 || what > 2) return -1002;
            Map<String, long[][]> seen = new LinkedHashMap<>();
            ArrayDeque<long[][]> queue = new ArrayDeque<>();
            seen.put(key(of(w)), of(w));
            queue.add(of(w));
            while (!queue.isEmpty()) {
                long[][] m = queue.remove();
                for (int s = 0; s < n; s++) {
                    long[][] next = ahead(behind(m, s), s);
                    if (size(next) <= size(m) && seen.putIfAbsent(key(next), next) == null) queue.add(next);
                    if (seen.size() > 300) return -1005;
                }
            }
            int least = 99;
            int many = 0;
            for (long[][] m : seen.values()) {
                int l = size(m);
                if (l < least) many = 0;
                if (l <= least) many++;
                least = Math.min(l, least);
            }
            return what == 0 ? least : what == 1 ? many : seen.size();
        }

        // ---- polynomials
        static int[] sum(int[] x, int[] y) {
            int[] out = Arrays.copyOf(x, Math.max(x.length, y.length));
            for (int i = 0; i < y.length; i++) out[i] += y[i];
            return out;
        }

        static int[] product(int[] x, int[] y) {
            int[] out = new int[x.length + y.length];
            for (int i = 0; i < x.length; i++)
                for (int j = 0; j < y.length; j++) out[i + j] += x[i] * y[j];
            return out;
        }

        static int[] trimmed(int[] x) {
            int l = x.length;
            while (l > 0 && x[l - 1] == 0) l--;
            return Arrays.copyOf(x, l);
        }

        static int numberAt(int[] x, int k) { return k < x.length ? x[k] : 0; }

        final Map<String, int[]> known = new HashMap<>();

        /** R (u, w), with the rule by the least mirror down on the right. */
        int[] bigR(long[][] u, long[][] w) {
            String name = n + Arrays.deepToString(turns) + key(u) + key(w);
            int[] out = known.get(name);
            if (out != null) return out;
            if (key(u).equals(key(w))) {
                out = new int[] {1};
            } else if (size(u) >= size(w) || !leftOf(theWord(w)).containsKey(key(u))) {
                out = new int[0];
            } else {
                int s = 0;
                while (!isBelow(w[s])) s++;
                int[] shorter = bigR(behind(u, s), behind(w, s));
                if (isBelow(u[s])) out = shorter;
                else out = sum(product(new int[] {-1, 1}, bigR(u, behind(w, s))), product(new int[] {0, 1}, shorter));
            }
            out = trimmed(out);
            known.put(name, out);
            return out;
        }

        /** P (u, w) for all u below w, by the equation that tells them. */
        Map<String, int[]> bigP(int[] word) {
            Map<String, int[]> out = polynomials.get(Arrays.toString(word));
            if (out != null) return out;
            out = new HashMap<>();
            Map<String, long[][]> all = leftOf(word);
            List<long[][]> order = new ArrayList<>(all.values());
            order.sort((x, y) -> size(y) - size(x));
            for (long[][] u : order) {
                int d = word.length - size(u);
                int[] rest = new int[0];
                for (long[][] v : order) {
                    if (size(v) > size(u)) rest = sum(rest, product(bigR(u, v), out.get(key(v))));
                }
                int[] p = d == 0 ? new int[] {1} : new int[(d - 1) / 2 + 1];
                if (d > 0) for (int i = 0; i < p.length; i++) p[i] = -numberAt(rest, i);
                int[] whole = sum(rest, p);
                int[] due = new int[d + 1];
                for (int i = 0; i < p.length; i++) due[d - i] = p[i];
                if (!Arrays.equals(trimmed(due), trimmed(whole))) throw new IllegalStateException("no such P");
                out.put(key(u), trimmed(p));
            }
            polynomials.put(Arrays.toString(word), out);
            return out;
        }

        int r(int u, int w, int k) {
            if (!known(u) || !known(w)) return -1001;
            if (k < 0) return -1002;
            if (length(w) > 8) return -1005;
            return numberAt(bigR(of(u), of(w)), k);
        }

        int p(int u, int w, int k) {
            if (!known(u) || !known(w)) return -1001;
            if (k < 0) return -1002;
            if (length(w) > 8) return -1005;
            return numberAt(bigP(elements.get(w)).getOrDefault(key(of(u)), new int[0]), k);
        }

        int leans(int u, int w) {
            if (!known(u) || !known(w)) return -1001;
            if (length(w) > 8) return -1005;
            int d = length(w) - length(u);
            return d > 0 && d % 2 == 1 ? p(u, w, (d - 1) / 2) : 0;
        }

        int rough(int w) {
            if (!known(w)) return -1001;
            if (length(w) > 8) return -1005;
            int many = 0;
            for (int[] p : bigP(elements.get(w)).values()) if (!Arrays.equals(p, new int[] {1})) many++;
            return many;
        }
    }

    /** The text's reading by tokens; every fault is noted, and the first byte's least wins. */
    static final class Parser {
        final String text;
        final List<String> tokens = new ArrayList<>();
        final List<Integer> places = new ArrayList<>();
        final Map<Integer, Integer> pairs = new HashMap<>();
        int n = 3;
        int kind = 0;
        int at = -1;

        Parser(String text) {
            this.text = text;
            java.util.regex.Matcher m = java.util.regex.Pattern.compile("[a-z]+|[^ ]", java.util.regex.Pattern.DOTALL).matcher(text);
            while (m.find()) {
                tokens.add(m.group());
                places.add(m.start());
            }
            tokens.add("END");
            places.add(text.length());
        }

        void note(int k, int place) {
            if (kind == 0 || place < at || place == at && k < kind) {
                kind = k;
                at = place;
            }
        }

        void parse() {
            int t = 0;
            boolean first = true;
            while (!tokens.get(t).equals("END")) {
                int start = t;
                if (first && tokens.get(t).equals("mirrors")) {
                    if (!figure(t + 1)) return;
                    n = tokens.get(t + 1).charAt(0) - '0';
                    if (n < 1 || n > 5) {
                        note(2, places.get(t + 1));
                        return;
                    }
                    t += 2;
                } else {
                    if (!figure(t)) return;
                    int i = tokens.get(t).charAt(0) - '0';
                    if (i >= n) {
                        note(2, places.get(t));
                        return;
                    }
                    if (!figure(t + 1)) return;
                    int j = tokens.get(t + 1).charAt(0) - '0';
                    if (j >= n || i == j) {
                        note(2, places.get(t + 1));
                        return;
                    }
                    int pair = Math.min(i, j) * 10 + Math.max(i, j);
                    if (pairs.containsKey(pair)) note(3, places.get(start));
                    String turns = tokens.get(t + 2);
                    if (turns.equals("never")) pairs.put(pair, 0);
                    else if (!figure(t + 2)) return;
                    else if ("2346".contains(turns)) pairs.put(pair, turns.charAt(0) - '0');
                    else note(2, places.get(t + 2));
                    if (kind != 0) return;
                    t += 3;
                }
                if (!tokens.get(t).equals(";")) {
                    note(1, places.get(t));
                    return;
                }
                t++;
                first = false;
            }
        }

        boolean figure(int t) {
            boolean is = tokens.get(t).length() == 1 && Character.isDigit(tokens.get(t).charAt(0));
            if (!is) note(1, places.get(t));
            return is;
        }
    }

    /** One run: the same calls to a MirrorRoots and to the model. */
    static final class Run {
        final long seed;
        final Random random;
        final MirrorRoots x = new MirrorRoots();
        final Plain model = new Plain();
        final StringBuilder calls = new StringBuilder();
        int made = 0;

        Run(long seed) {
            this.seed = seed;
            random = new Random(seed);
        }

        /** Behind the 512th call nothing is promised. */
        boolean hasRoomFor(int calls) { return made + calls <= 512; }

        void due(String call, long got, long want) {
            compared++;
            made++;
            calls.append(call).append(' ');
            if (got == want) return;
            wrong++;
            String all = calls.toString();
            System.out.println("seed " + seed + ": " + call + " answered " + got + ", due is " + want);
            System.out.println("  behind " + all.substring(Math.max(0, all.length() - 600)));
        }

        void go() {
            if (random.nextInt(8) != 0) tellGroup();
            int calls = 100 + random.nextInt(150);
            boolean full = random.nextInt(6) == 0;
            for (int i = 0; i < calls && wrong < 20 && hasRoomFor(42); i++) {
                if (random.nextInt(250) == 0) tellGroup();
                else if (random.nextInt(100) < (full ? 60 : model.elements.size() < 8 ? 40 : 12)) draftWord();
                else call();
            }
        }

        void feedText(String text) {
            for (int i = 0; i < text.length(); ) {
                int k = Math.min(text.length() - i, 1 + random.nextInt(8));
                long bytes = random.nextLong();
                for (int j = 0; j < k; j++) bytes = bytes << 8 | text.charAt(i + j);
                due("feed(" + k + ", " + bytes + ")", x.feed(k, bytes), model.feed(k, bytes));
                i += k;
            }
        }

        void tellGroup() {
            for (int tries = 0; tries < 12 && hasRoomFor(122); tries++) {
                String text = groupText();
                if (random.nextInt(3) == 0) text = spoilt(text);
                feedText(text);
                int got = x.read();
                int want = model.read();
                due("read() of '" + text + "'", got, want);
                due("fault()", x.fault(), model.fault());
                if (want > 0) return;
            }
        }

        String blanks() { return random.nextInt(5) == 0 ? "  ".substring(random.nextInt(3)) : ""; }

        String groupText() {
            int n = 1 + random.nextInt(5);
            StringBuilder out = new StringBuilder(blanks());
            if (n != 3 || random.nextBoolean()) out.append("mirrors").append(blanks()).append(n).append(blanks()).append(';').append(blanks());
            int loose = random.nextInt(4);
            for (int i = 0; i < n; i++) {
                for (int j = i + 1; j < n; j++) {
                    if (out.length() > 105 || random.nextInt(4) < loose && j > i + 1) continue;
                    int kind = random.nextInt(20);
                    String t = kind < 10 ? "3" : kind < 13 ? "4" : kind < 15 ? "6" : kind < 17 ? "2" : "never";
                    boolean swap = random.nextBoolean();
                    out.append(swap ? j : i).append(blanks()).append(swap ? i : j).append(blanks()).append(t).append(blanks()).append(';').append(blanks());
                }
            }
            return out.length() <= 120 ? out.toString() : "mirrors 4;013;123;233;";
        }

        String spoilt(String text) {
            StringBuilder out = new StringBuilder(text);
            int changes = 1 + random.nextInt(2);
            for (int i = 0; i < changes; i++) {
                int at = random.nextInt(out.length() + 1);
                char c = "0123456789;; mnevrs?A~".charAt(random.nextInt(22));
                if (random.nextInt(20) == 0) c = (char) random.nextInt(256);
                int how = random.nextInt(4);
                if (how == 0) out.insert(at, c);
                else if (how == 1 && at < out.length()) out.setCharAt(at, c);
                else if (how == 2 && at < out.length()) out.deleteCharAt(at);
                else if (how == 3 && out.length() > 8) out.append(out.substring(at / 2, Math.min(out.length(), at / 2 + 8)));
            }
            return out.length() > 120 ? out.substring(0, 120) : out.toString();
        }

        void draftWord() {
            int l = random.nextInt(3) == 0 ? random.nextInt(21) : random.nextInt(11);
            int step = random.nextInt(3);
            int s = random.nextInt(model.n);
            for (int i = 0; i < l; i++) {
                s = step == 0 ? random.nextInt(model.n) : (s + 1 + random.nextInt(step)) % model.n;
                due("letter(" + s + ")", x.letter(s), model.letter(s));
            }
            due("keep()", x.keep(), model.keep());
            int w = model.elements.size() - 1;
            for (int i = 0; i <= model.length(w); i++) due("at(" + w + ", " + i + ")", x.at(w, i), model.at(w, i));
        }

        int odd(int most) {
            switch (random.nextInt(6)) {
                case 0: return -1;
                case 1: return most;
                case 2: return Integer.MAX_VALUE;
                case 3: return Integer.MIN_VALUE;
                default: return random.nextInt();
            }
        }

        int any(int most) { return random.nextInt(40) == 0 ? odd(most) : random.nextInt(most); }
        int element() { return any(model.elements.size()); }

        /** A kept element with which the plain model is not too slow. */
        int small(int most) {
            for (int i = 0; i < 20; i++) {
                int w = element();
                if (!model.known(w) || model.length(w) <= most) return w;
            }
            return 0;
        }

        void call() {
            int u = element(), w = element(), n = model.n;
            switch (random.nextInt(30)) {
                case 0: { int i = any(n), j = any(n); due("turns(" + i + ", " + j + ")", x.turns(i, j), model.turns(i, j)); break; }
                case 1: { int i = any(n), j = any(n); due("number(" + i + ", " + j + ")", x.number(i, j), model.number(i, j)); break; }
                case 2: { int k = any(4); due("count(" + k + ")", x.count(k), model.count(k)); break; }
                case 3: { int s = any(n); due("letter(" + s + ")", x.letter(s), model.letter(s)); break; }
                case 4: due("length(" + w + ")", x.length(w), model.length(w)); break;
                case 5: { int i = any(21); due("at(" + w + ", " + i + ")", x.at(w, i), model.at(w, i)); break; }
                case 6: { int k = any(2); due("down(" + w + ", " + k + ")", x.down(w, k), model.down(w, k)); break; }
                case 7: { int i = any(n), k = any(n); due("root(" + w + ", " + i + ", " + k + ")", x.root(w, i, k), model.root(w, i, k)); break; }
                case 8: due("times(" + u + ", " + w + ")", x.times(u, w), model.times(u, w)); break;
                case 9: due("back(" + w + ")", x.back(w), model.back(w)); break;
                case 10: case 11: { int v = small(10); due("below(" + u + ", " + v + ")", x.below(u, v), model.below(u, v)); break; }
                case 12: due("covers(" + w + ")", x.covers(w), model.covers(w)); break;
                case 13: due("words(" + w + ")", x.words(w), model.words(w)); break;
                case 14: { int s = any(n); due("exchange(" + w + ", " + s + ")", x.exchange(w, s), model.exchange(w, s)); break; }
                case 15: { int i = any(12), k = any(n); due("inversion(" + w + ", " + i + ", " + k + ")", x.inversion(w, i, k), model.inversion(w, i, k)); break; }
                case 16: case 17: {
                    int set = any(1 << n), what = any(2);
                    Integer want = model.coset(w, set, what);
                    if (want != null) due("coset(" + w + ", " + set + ", " + what + ")", x.coset(w, set, what), want);
                    break;
                }
                case 18: {
                    int v = small(12), left = any(1 << n), right = any(1 << n);
                    Integer want = model.both(v, left, right);
                    if (want != null) due("both(" + v + ", " + left + ", " + right + ")", x.both(v, left, right), want);
                    break;
                }
                case 19: { int l = any(21); due("growth(" + l + ")", x.growth(l), model.growth(l)); break; }
                case 20: { int k = any(2); due("whole(" + k + ")", x.whole(k), model.whole(k)); break; }
                case 21: due("order(" + w + ")", x.order(w), model.order(w)); break;
                case 22: { int k = any(3); due("shifts(" + w + ", " + k + ")", x.shifts(w, k), model.shifts(w, k)); break; }
                case 23: case 24: { int k = any(7); due("r(" + u + ", " + w + ", " + k + ")", x.r(u, w, k), model.r(u, w, k)); break; }
                case 25: case 26: { int v = smallForP(), k = any(4); due("p(" + u + ", " + v + ", " + k + ")", x.p(u, v, k), model.p(u, v, k)); break; }
                case 27: { int v = smallForP(); due("leans(" + u + ", " + v + ")", x.leans(u, v), model.leans(u, v)); break; }
                case 28: { int v = smallForP(); due("rough(" + v + ")", x.rough(v), model.rough(v)); break; }
                default: due("keep()", x.keep(), model.keep()); break;
            }
        }

        /** Elements of 9 letters and more are LARGE at once; of 8 and 7 the model is slow, so they come less often. */
        int smallForP() {
            int w = element();
            int l = model.length(w);
            return l >= 7 && l <= 8 && random.nextInt(4) != 0 ? small(6) : w;
        }
    }
}
