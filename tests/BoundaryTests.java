import java.util.ArrayList;
import java.util.List;

/**
 * For each sentence of ../shared/DOC.md that names a boundary case a test of its own: the last value inside and the
 * first outside, the empty and the full case, and which refusal is answered where two meet. Behind each refused call
 * the other calls are asked, too: they must answer as those of a twin that was not asked.
 */
public final class BoundaryTests {
    private static final int NONE = -1, UNKNOWN = -1001, OUTSIDE = -1002, NOT = -1003, FULL = -1004, LARGE = -1005;
    private static final int MIN = Integer.MIN_VALUE, MAX = Integer.MAX_VALUE;
    private static final int[] ELSEWHERE = {MIN, MIN + 1, -1005, -1001, -2, -1, 64, 1 << 16, MAX - 1, MAX};
    private static final String A4 = "mirrors 4;013;123;233;";
    private static final String F4 = "mirrors 4;013;124;233;";
    private static final String NEVER2 = "mirrors 2;01never;";
    private static final String NEVER_AND_ONE = "mirrors 3;01never;";
    private static final String ALL_NEVER = "mirrors 5;01never;02never;03never;04never;12never;13never;14never;23never;24never;34never;";
    // 2000 of LENGTHS up to 7, 1215 of them of LENGTH 7.
    private static final String JUST_2000 = "mirrors 4;01never;02never;034;124;133;";
    // 2002 of LENGTHS up to 6, 681 of them up to 5: of all groups none has just 2001.
    private static final String JUST_ABOVE_2000 = "mirrors 5;016;033;043;123;134;144;343;";
    private static final String SHIFTS_300 = "mirrors 5;013;123;233;34never;", WORD_300 = "21321434323411323010";
    private static final String SHIFTS_301 = "mirrors 5;013;143;233;244;", WORD_301 = "14021430123421400213";
    // P of element 0 and this word: 1 + q + 2 q q + q q q.
    private static final String STEEP = "01never;026;123;", STEEP_WORD = "20201202";
    private static final String ZERO = "01010101010101010101", ONE = "10101010101010101010";

    private static int wrong = 0;
    private static int tests = 0;
    private static String sentence = "";

    // ---- what the tests are made of

    interface Maker { Box make(); }
    interface Call { long on(Box x); }

    /** An object that counts its calls: behind the 512th nothing is promised, so no test may look there. */
    static final class Box {
        private final MirrorRoots x = new MirrorRoots();
        private int calls = 0;

        private MirrorRoots x() {
            if (++calls > 512) throw new IllegalStateException("a test with more than 512 calls");
            return x;
        }

        int feed(int n, long bytes) { return x().feed(n, bytes); }
        int read() { return x().read(); }
        int fault() { return x().fault(); }
        int turns(int i, int j) { return x().turns(i, j); }
        int number(int i, int j) { return x().number(i, j); }
        int count(int what) { return x().count(what); }
        int letter(int s) { return x().letter(s); }
        int keep() { return x().keep(); }
        int length(int w) { return x().length(w); }
        int at(int w, int i) { return x().at(w, i); }
        int down(int w, int what) { return x().down(w, what); }
        long root(int w, int i, int k) { return x().root(w, i, k); }
        int times(int u, int w) { return x().times(u, w); }
        int back(int w) { return x().back(w); }
        int below(int u, int w) { return x().below(u, w); }
        int covers(int w) { return x().covers(w); }
        long words(int w) { return x().words(w); }
        int exchange(int w, int s) { return x().exchange(w, s); }
        long inversion(int w, int i, int k) { return x().inversion(w, i, k); }
        int coset(int w, int set, int what) { return x().coset(w, set, what); }
        int both(int w, int left, int right) { return x().both(w, left, right); }
        int growth(int l) { return x().growth(l); }
        int whole(int what) { return x().whole(what); }
        int order(int w) { return x().order(w); }
        int shifts(int w, int what) { return x().shifts(w, what); }
        int r(int u, int w, int k) { return x().r(u, w, k); }
        int p(int u, int w, int k) { return x().p(u, w, k); }
        int leans(int u, int w) { return x().leans(u, w); }
        int rough(int w) { return x().rough(w); }

        /** Feeds a text, eight bytes at a time. */
        Box text(String text) {
            for (int i = 0; i < text.length(); i += 8) {
                int n = Math.min(8, text.length() - i);
                long bytes = 0;
                for (int j = 0; j < n; j++) bytes = bytes << 8 | text.charAt(i + j);
                int want = count(2) + n;
                if (feed(n, bytes) != want) throw new IllegalStateException("feed '" + text + "'");
            }
            return this;
        }

        Box group(String text) {
            text(text);
            if (read() < 1) throw new IllegalStateException("read '" + text + "'");
            return this;
        }

        Box draft(String word) {
            for (int i = 0; i < word.length(); i++) letter(word.charAt(i) - '0');
            return this;
        }

        int keep(String word) {
            draft(word);
            return keep();
        }

        String word(int w) {
            StringBuilder out = new StringBuilder();
            int l = length(w);
            for (int i = 0; i < l; i++) out.append(at(w, i));
            return out.toString();
        }
    }

    private static void due(String call, long got, long want) {
        if (got != want) complain(call + " answered " + got + ", due is " + want);
    }

    private static void dueWord(String call, String got, String want) {
        if (!got.equals(want)) complain(call + " is the word '" + got + "', due is '" + want + "'");
    }

    private static void complain(String what) {
        wrong++;
        System.out.println("promise " + sentence + ": " + what);
    }

    private static void test(String name, Runnable body) {
        sentence = name;
        tests++;
        try {
            body.run();
        } catch (RuntimeException | StackOverflowError e) {
            complain("threw " + e + " at " + e.getStackTrace()[0]);
        }
    }

    // ---- states, each with a draft and a text that wait

    private static Box group(String text) { return new Box().group(text); }

    /** Four mirrors; elements of LENGTHS 0, 4, 4, 10, 8, 9, 1. */
    private static Box some() {
        Box x = group(A4);
        x.keep("1021");
        x.keep("0123");
        x.keep("0102103210");
        x.keep("01021032");
        x.keep("010210321");
        x.keep("2");
        return x.draft("32").text("mirrors 2;01");
    }

    /** 40 elements, all of two mirrors up to LENGTH 20 but ONE; 20 letters (ONE); 120 bytes. */
    private static Box full() {
        return fullOfTwo().draft(ONE).text(" ".repeat(100) + "mirrors 2; 0 1never;");
    }

    /** Element of the first l letters of ZERO: l + 1 (1 for l = 1); of ONE: l + 20 (2 for l = 1; l 19 at most). */
    private static Box fullOfTwo() {
        Box x = group(NEVER2);
        x.keep("0");
        x.keep("1");
        for (int l = 2; l <= 20; l++) due("times", x.times(zero(l - 1), l % 2 == 0 ? 2 : 1), zero(l));
        for (int l = 2; l <= 19; l++) due("times", x.times(one(l - 1), l % 2 == 0 ? 1 : 2), one(l));
        due("elements", x.count(1), 40);
        return x;
    }

    private static int zero(int l) { return l == 1 ? 1 : l + 1; }
    private static int one(int l) { return l == 1 ? 2 : l + 20; }

    /** 40 elements of three mirrors; 3 is the first 18 letters of ZERO with a 2 behind, which are not kept. */
    private static Box fullOfThree() {
        Box x = group(NEVER_AND_ONE);
        x.keep("0");
        x.keep("1");
        x.keep("0101010101010101012");
        int last = 1;
        for (int l = 2; l <= 17; l++) last = x.times(last, l % 2 == 0 ? 2 : 1);
        last = 2;
        for (int l = 2; l <= 20; l++) last = x.times(last, l % 2 == 0 ? 1 : 2);
        x.keep(ZERO);
        due("elements", x.count(1), 40);
        return x.draft("2").text("mirrors 1;");
    }

    /** One element, with 301 SHIFTS, in a GROUP that is not WHOLE. */
    private static Box wide() {
        Box x = group(SHIFTS_301);
        x.keep(WORD_301);
        x.keep("0123");
        return x.draft("4").text("mirrors 2;");
    }

    // ---- a refused call changes nothing

    /** Answers with their names; parts 0 to 2 change nothing, part 3 uses up the draft and the text. */
    static final class Answers {
        private final List<String> names = new ArrayList<>();
        private final List<Long> numbers = new ArrayList<>();
        private final Box x;
        private final int n;
        private final int m;

        Answers(Box x, int part) {
            this.x = x;
            n = x.count(0);
            m = x.count(1);
            switch (part) {
                case 0: askGroup(); break;
                case 1: askWords(); break;
                case 2: askMore(); break;
                default: askOfDraftAndText(); break;
            }
        }

        private void add(String name, long number) {
            names.add(name);
            numbers.add(number);
        }

        private void askGroup() {
            for (int what = 0; what < 4; what++) add("count(" + what + ")", x.count(what));
            add("fault()", x.fault());
            for (int i = 0; i < n; i++) {
                for (int j = 0; j < n; j++) {
                    add("turns(" + i + ", " + j + ")", x.turns(i, j));
                    add("number(" + i + ", " + j + ")", x.number(i, j));
                }
            }
            for (int l = 0; l <= 20; l++) add("growth(" + l + ")", x.growth(l));
            for (int what = 0; what < 2; what++) add("whole(" + what + ")", x.whole(what));
        }

        private void askWords() {
            for (int w = 0; w < m; w++) {
                int l = x.length(w);
                add("length(" + w + ")", l);
                add("at(" + w + ", 0)", x.at(w, 0));
                add("at(" + w + ", last)", x.at(w, l - 1));
                add("down(" + w + ", 0)", x.down(w, 0));
                add("down(" + w + ", 1)", x.down(w, 1));
                add("root(" + w + ", 0, 0)", x.root(w, 0, 0));
                add("root(" + w + ", last, 0)", x.root(w, n - 1, 0));
            }
            add("length(" + m + ")", x.length(m));
        }

        private void askMore() {
            int step = Math.max(1, m / 6);
            for (int w = 0; w < m; w += step) {
                add("covers(" + w + ")", x.covers(w));
                add("words(" + w + ")", x.words(w));
                add("exchange(" + w + ", 0)", x.exchange(w, 0));
                add("inversion(" + w + ", 1, 0)", x.inversion(w, 1, 0));
                add("both(" + w + ", 1, 2)", x.both(w, 1, 2));
                add("order(" + w + ")", x.order(w));
                add("rough(" + w + ")", x.rough(w));
                for (int what = 0; what < 3; what++) add("shifts(" + w + ", " + what + ")", x.shifts(w, what));
                for (int u = 0; u < m; u += step) {
                    add("below(" + u + ", " + w + ")", x.below(u, w));
                    add("r(" + u + ", " + w + ", 1)", x.r(u, w, 1));
                    add("p(" + u + ", " + w + ", 1)", x.p(u, w, 1));
                    add("leans(" + u + ", " + w + ")", x.leans(u, w));
                }
            }
        }

        private void askOfDraftAndText() {
            int kept = x.keep();
            add("keep()", kept);
            if (kept >= 0) {
                int l = x.length(kept);
                add("length of the draft", l);
                for (int i = 0; i < l; i++) add("at(draft, " + i + ")", x.at(kept, i));
            }
            add("count(3)", x.count(3));
            add("feed(1, ';')", x.feed(1, ';'));
            add("read()", x.read());
            add("fault()", x.fault());
            for (int what = 0; what < 4; what++) add("count(" + what + ")", x.count(what));
            int now = x.count(0);
            for (int i = 0; i < now; i++) add("turns(0, " + i + ")", x.turns(0, i));
            add("growth(2)", x.growth(2));
        }

        private Answers without(String name) {
            for (int i = names.size() - 1; i >= 0; i--) {
                if (!names.get(i).equals(name)) continue;
                names.remove(i);
                numbers.remove(i);
            }
            return this;
        }

        /** Both have the same calls but one, so also the same names, unless a number of them is changed. */
        private void compare(Answers twin, String call) {
            for (int i = 0; i < Math.max(names.size(), twin.names.size()); i++) {
                if (i >= names.size() || i >= twin.names.size()) {
                    complain("behind " + call + " other calls can be asked");
                    return;
                }
                if (names.get(i).equals(twin.names.get(i)) && numbers.get(i).equals(twin.numbers.get(i))) continue;
                complain("behind " + call + ": " + names.get(i) + " answered " + numbers.get(i) + ", due is " + twin.numbers.get(i));
                return;
            }
        }
    }

    /** What the object keeps of earlier answers must not be disturbed either: so some are asked ahead, too. */
    private static Box asked(Maker maker) {
        Box x = maker.make();
        int last = x.count(1) - 1;
        x.growth(3);
        x.whole(0);
        x.words(last);
        x.shifts(last, 0);
        x.rough(last);
        return x;
    }

    private static void refused(String call, Maker maker, Call asking, long want) {
        for (int part = 0; part < 4; part++) {
            Box x = asked(maker);
            due(call, asking.on(x), want);
            Box twin = asked(maker);
            new Answers(x, part).compare(new Answers(twin, part), call);
        }
    }

    // ---- promise 1

    private static void newObject() {
        Box x = new Box();
        due("count(0)", x.count(0), 3);
        due("count(1)", x.count(1), 1);
        due("count(2)", x.count(2), 0);
        due("count(3)", x.count(3), 0);
        due("fault()", x.fault(), NONE);
        int[] turns = {1, 3, 2, 3, 1, 3, 2, 3, 1};
        int[] numbers = {2, -1, 0, -1, 2, -1, 0, -1, 2};
        for (int i = 0; i < 3; i++) {
            for (int j = 0; j < 3; j++) {
                due("turns(" + i + ", " + j + ")", x.turns(i, j), turns[3 * i + j]);
                due("number(" + i + ", " + j + ")", x.number(i, j), numbers[3 * i + j]);
            }
        }
        due("whole(0)", x.whole(0), 24);
        due("whole(1)", x.whole(1), 6);
    }

    private static void onlyElementZero() {
        Box x = new Box();
        due("length(0)", x.length(0), 0);
        due("at(0, 0)", x.at(0, 0), NONE);
        due("keep() of no letters", x.keep(), 0);
        due("length(1)", x.length(1), UNKNOWN);
        due("letter(2)", x.letter(2), 1);
        due("letter(3)", x.letter(3), OUTSIDE);
    }

    // ---- promise 2

    private static void feedOneToEight() {
        Box x = new Box();
        int sum = 0;
        for (int n = 1; n <= 8; n++) {
            sum += n;
            due("feed(" + n + ")", x.feed(n, 0), sum);
        }
        refused("feed(0)", BoundaryTests::some, y -> y.feed(0, ';'), OUTSIDE);
        refused("feed(9)", BoundaryTests::some, y -> y.feed(9, ';'), OUTSIDE);
        for (int n : ELSEWHERE) due("feed(" + n + ")", x.feed(n, ';'), OUTSIDE);
        due("count(2)", x.count(2), 36);
    }

    private static void feedHighestFirst() {
        Box x = new Box();
        x.feed(8, 0x6d6972726f727332L); // mirrors2
        x.feed(1, ';');
        due("read()", x.read(), 2);
        x.feed(3, 0x3031343BL << 24 | 0x303134L); // 014, with other bytes above it
        x.feed(1, -256L + ';');
        due("read() of three and one", x.read(), 3);
        due("turns(0, 1)", x.turns(0, 1), 4);
        x.feed(4, 0xFFFFFFFF3031363BL); // 016;
        due("read() of a number below 0", x.read(), 3);
        due("turns(0, 1)", x.turns(0, 1), 6);
        x.feed(8, Long.MIN_VALUE); // byte 128, then seven 0
        due("read() of byte 128", x.read(), -11);
        due("fault()", x.fault(), 0);
        x.feed(8, 0x2020202020202000L | 0xFF);
        due("read() of byte 255", x.read(), -11);
        due("fault()", x.fault(), 7);
    }

    private static void feedTo120() {
        Box x = new Box();
        x.text(" ".repeat(112));
        due("feed(8) to 120", x.feed(8, 0x2020202030313620L + 0x1B), 120); // 016;
        due("count(2)", x.count(2), 120);
        due("read() of 120", x.read(), 3);
        due("turns(0, 1)", x.turns(0, 1), 6);
        Box y = new Box();
        y.text(" ".repeat(119));
        due("feed(1) to 120", y.feed(1, 'x'), 120);
        due("read()", y.read(), -11);
        due("fault() at the last of 120", y.fault(), 119);
    }

    private static void feedAbove120() {
        refused("feed(1) behind 120", BoundaryTests::full, x -> x.feed(1, ';'), FULL);
        refused("feed(8) behind 120", BoundaryTests::full, x -> x.feed(8, ';'), FULL);
        for (int n = 2; n <= 8; n++) {
            int few = n;
            Maker near = () -> some().text(" ".repeat(120 - 12 - few + 1));
            refused("feed(" + n + ") to 121", near, x -> x.feed(few, ';'), FULL);
            due("feed to 120 all the same", near.make().feed(few - 1, 0), 120);
        }
    }

    private static void feedOutsideAheadOfFull() {
        refused("feed(0) behind 120", BoundaryTests::full, x -> x.feed(0, 32), OUTSIDE);
        refused("feed(9) behind 120", BoundaryTests::full, x -> x.feed(9, 32), OUTSIDE);
        refused("feed(MAX) behind 120", BoundaryTests::full, x -> x.feed(MAX, 32), OUTSIDE);
    }

    // ---- promises 3, 4: the text

    /** Reads a text in a new object: the number of its FAULT (0: none), and where. */
    private static void reads(String text, int kind, int at) {
        Box x = new Box().text(text);
        int got = x.read();
        if (kind == 0) due("read() of '" + text + "'", got < 0 ? got : x.count(0) - got, 0);
        else due("read() of '" + text + "'", got, -10 - kind);
        due("fault() of '" + text + "'", x.fault(), at);
        due("count(2) behind '" + text + "'", x.count(2), 0);
        if (kind == 0) return;
        due("count(0) behind '" + text + "'", x.count(0), 3);
        due("turns(0, 1) behind '" + text + "'", x.turns(0, 1), 3);
        due("turns(0, 2) behind '" + text + "'", x.turns(0, 2), 2);
        due("turns(1, 2) behind '" + text + "'", x.turns(1, 2), 3);
    }

    private static void emptyText() {
        for (String text : new String[] {"", " ", " ".repeat(120), "mirrors 3;"}) {
            Box x = new Box().text(text);
            due("read()", x.read(), 3);
            due("fault()", x.fault(), NONE);
            due("whole(0)", x.whole(0), 8);
            for (int i = 0; i < 3; i++) {
                for (int j = 0; j < 3; j++) due("turns(" + i + ", " + j + ")", x.turns(i, j), i == j ? 1 : 2);
            }
        }
        // Not three again, if there were more before.
        Box x = group("mirrors 5;343;");
        due("read() of nothing", x.read(), 3);
        due("turns(2, 3)", x.turns(2, 3), OUTSIDE);
    }

    private static void oneToFiveMirrors() {
        for (int n = 0; n <= 9; n++) {
            reads("mirrors " + n + ";", n >= 1 && n <= 5 ? 0 : 2, n >= 1 && n <= 5 ? NONE : 8);
            reads("mirrors" + n + ";", n >= 1 && n <= 5 ? 0 : 2, n >= 1 && n <= 5 ? NONE : 7);
        }
        for (int n = 1; n <= 5; n++) {
            Box x = new Box().text("mirrors " + n + ";");
            due("read()", x.read(), n);
            due("count(0)", x.count(0), n);
            due("turns(n - 1, n - 1)", x.turns(n - 1, n - 1), 1);
            due("turns(n, 0)", x.turns(n, 0), OUTSIDE);
            due("whole(0)", x.whole(0), 1 << n);
        }
    }

    private static void threeIfNotTold() {
        Box x = group("mirrors 5;").text("124;");
        due("read()", x.read(), 3);
        due("turns(1, 2)", x.turns(1, 2), 4);
        reads("033;", 2, 1);
        reads("303;", 2, 0);
    }

    private static void mirrorsFirst() {
        reads("   mirrors 2;", 0, NONE);
        reads("mirrors 2;mirrors 2;", 1, 10);
        reads("mirrors 2;mirrors", 1, 10);
        reads("013;mirrors 3;", 1, 4);
        reads("013; mirrors 3;", 1, 5);
        reads("013 mirrors 3;", 1, 4);
        reads("01mirrors;", 1, 2);
        reads("mirrors mirrors;", 1, 8);
        reads("never 3;", 1, 0);
    }

    private static void pairsInside() {
        for (int n = 1; n <= 5; n++) {
            String head = "mirrors " + n + ";";
            for (int i = 0; i <= 9; i++) {
                for (int j = 0; j <= 9; j++) {
                    boolean first = i < n, second = j < n && j != i;
                    reads(head + i + j + "2;", first && second ? 0 : 2, !first ? 10 : !second ? 11 : NONE);
                }
            }
        }
    }

    private static void turnsOfText() {
        int[] turns = {2, 3, 4, 6};
        for (int t = 0; t <= 9; t++) {
            boolean inside = t == 2 || t == 3 || t == 4 || t == 6;
            reads("02" + t + ";", inside ? 0 : 2, inside ? NONE : 2);
            reads("mirrors 2;  1 0 " + t + ";", inside ? 0 : 2, inside ? NONE : 16);
        }
        for (int t : turns) due("turns(0, 1)", group("01" + t + ";").turns(0, 1), t);
        due("turns(0, 1)", group("01never;").turns(0, 1), 0);
        reads("01 neve;", 1, 3);
        reads("01 neverr;", 1, 3);
        reads("01 n;", 1, 3);
        reads("01 ;", 1, 3);
        reads("01;", 1, 2);
        reads("01-3;", 1, 2);
    }

    private static void pairsNotTold() {
        // All pairs were told; of the next text only one is: the others are 2 again.
        Box x = group(ALL_NEVER);
        for (int i = 0; i < 5; i++) {
            for (int j = 0; j < 5; j++) due("turns", x.turns(i, j), i == j ? 1 : 0);
        }
        x.text("mirrors 5; 4 3 6;");
        due("read()", x.read(), 5);
        for (int i = 0; i < 5; i++) {
            for (int j = 0; j < 5; j++) due("turns(" + i + ", " + j + ")", x.turns(i, j), i == j ? 1 : i + j == 7 ? 6 : 2);
        }
    }

    private static void singleFigures() {
        reads("mirrors 33;", 1, 9);
        reads("mirrors 3 3;", 1, 10);
        reads("mirrors 05;", 2, 8);
        reads("mirrors 10;", 1, 9);
        reads("0112;", 2, 2);
        reads("01 33;", 1, 4);
        reads("01 3 3;", 1, 5);
        reads("00 1 3;", 2, 1);
    }

    private static void signsThatStand() {
        // The signs next to 0 .. 9, a .. z and the blank; ':' comes next to 9 and ahead of ';'.
        int[] signs = {0, 9, 10, 31, 33, '/', ':', '<', 'A', 'M', 'N', 'Z', '@', '[', '`', '{', 127, 128, 160, 176, 255};
        for (int sign : signs) {
            String c = String.valueOf((char) sign);
            reads(c, 1, 0);
            reads("mirrors" + c + "2;", 1, 7);
            reads("mirrors 2" + c + ";", 1, 9);
            reads("mirrors 2;" + c, 1, 10);
            reads("0" + c + "13;", 1, 1);
            reads("01" + c + "3;", 1, 2);
            reads("01never" + c + ";", 1, 7);
            reads("013" + c, 1, 3);
        }
    }

    private static void wordsAreLetters() {
        for (String c : new String[] {"a", "m", "z"}) {
            reads("mirrors" + c + "2;", 1, 0);
            reads(c + "mirrors2;", 1, 0);
            reads("01never" + c + ";", 1, 2);
            reads("01" + c + "never;", 1, 2);
            reads("mirrors " + c + ";", 1, 8);
            reads("mirrors 2" + c + ";", 1, 9);
            reads("0" + c + "3;", 1, 1);
            reads("013" + c + ";", 1, 3);
        }
        // As many letters, but others.
        for (String word : new String[] {"nirrors", "mirrort", "minnors", "mmmmmmm", "srorrim"}) reads(word + " 2;", 1, 0);
        for (String word : new String[] {"mever", "nevel", "nezer", "eeeee", "reven"}) reads("01 " + word + ";", 1, 3);
        reads("Mirrors 2;", 1, 0);
        reads("mirrorS 2;", 1, 0);
        reads("01 Never;", 1, 3);
        reads("01 neveR;", 1, 3);
    }

    private static void blanksAnywhere() {
        reads("mirrors2;01never;", 0, NONE);
        reads("  mirrors  2  ;  0  1  never  ;  ", 0, NONE);
        reads("mirrors2;0 1 3 ; ", 0, NONE);
        for (int i = 1; i < 7; i++) reads("mirrors".substring(0, i) + " " + "mirrors".substring(i) + " 2;", 1, 0);
        for (int i = 1; i < 5; i++) reads("01" + "never".substring(0, i) + " " + "never".substring(i) + ";", 1, 2);
    }

    private static void endAtTheLength() {
        String text = "mirrors 3;0 1 never;";
        for (int l = 0; l <= text.length(); l++) {
            boolean fits = l == 0 || l == 10 || l == 20;
            int at = fits ? NONE : l < 7 ? 0 : l > 14 && l < 19 ? 14 : l;
            reads(text.substring(0, l), fits ? 0 : 1, at);
        }
        // Blanks count as well.
        reads("01   ", 1, 5);
        reads("mirrors" + " ".repeat(113), 1, 120);
        reads(" ".repeat(117) + "013", 1, 120);
        reads(" ".repeat(116) + "013;", 0, NONE);
    }

    private static void firstByteThatHasOne() {
        reads("09x", 2, 1);
        reads("9 9 9", 2, 0);
        reads("x 9", 1, 0);
        reads("mirrors 9", 2, 8);
        reads("mirrors 0 mirrors", 2, 8);
        reads("019;x", 2, 2);
        reads("013;x;019;", 1, 4);
        reads("013;019;", 3, 4);
        reads("013;01", 3, 4);
        reads("013;01x;", 3, 4);
        reads("013;013", 3, 4);
        reads("013;0 0 3;", 2, 6);
        reads("013;029;013;", 2, 6);
        reads("013;013;mirrors;", 3, 4);
        reads("013 013;", 1, 4);
        reads("01 01 3;", 2, 3);
    }

    private static void toldAlready() {
        reads("013;013;", 3, 4);
        reads("013;103;", 3, 4);
        reads("103;013;", 3, 4);
        reads("012;014;", 3, 4);
        reads("01never;  1 0 never;", 3, 10);
        reads("013;023;123;213;", 3, 12);
        reads("013;023;123;", 0, NONE);
        // What an earlier text told does not count.
        Box x = group("013;").text("014;");
        due("read()", x.read(), 3);
        Box y = new Box().text("013;019;");
        due("read()", y.read(), -13);
        y.text("013;");
        due("read()", y.read(), 3);
        reads("mirrors 5;013;023;033;043;123;133;143;233;243;343;", 0, NONE);
        reads("mirrors 5;013;023;033;043;123;133;143;233;243;343;433;", 3, 50);
    }

    private static void fullText() {
        String text = ALL_NEVER + " ".repeat(120 - ALL_NEVER.length() - 1);
        Box x = new Box().text(text.substring(0, text.length() - 7) + "       ");
        due("feed(1) to 120", x.feed(1, ' '), 120);
        due("read()", x.read(), 5);
        due("turns(3, 4)", x.turns(3, 4), 0);
    }

    private static void readMakesAnew() {
        for (Maker maker : new Maker[] {BoundaryTests::some, BoundaryTests::full, BoundaryTests::fullOfThree}) {
            Box y = maker.make();
            y.read();
            y.text(A4);
            due("read()", y.read(), 4);
            due("fault()", y.fault(), NONE);
            due("elements", y.count(1), 1);
            due("bytes", y.count(2), 0);
            due("letters", y.count(3), 0);
            due("length(0)", y.length(0), 0);
            due("length(1)", y.length(1), UNKNOWN);
            due("keep() of no letters", y.keep(), 0);
            due("keep()", y.keep("3"), 1);
        }
        // What was counted for one GROUP is not told of the next.
        Box u = group(A4);
        int w = u.keep("1021");
        due("whole(0)", u.whole(0), 120);
        due("growth(3)", u.growth(3), 15);
        due("shifts(w, 2)", u.shifts(w, 2), 2);
        due("rough(w)", u.rough(w), 2);
        u.group("mirrors 4;");
        due("keep()", u.keep("0123"), w);
        due("rough(w)", u.rough(w), 0);
        due("shifts(w, 2)", u.shifts(w, 2), 1);
        due("growth(3)", u.growth(3), 4);
        due("whole(0)", u.whole(0), 16);
        // The same GROUP once more: its ELEMENTS are gone all the same.
        Box z = group(A4);
        z.keep("01");
        z.draft("2").group(A4);
        due("elements", z.count(1), 1);
        due("letters", z.count(3), 0);
        due("length(1)", z.length(1), UNKNOWN);
        due("down(1, 0)", z.down(1, 0), UNKNOWN);
    }

    private static void faultyReadChangesNothingElse() {
        String[] texts = {"mirrors 2;0 1 3", "mirrors 2;0 2 3;", "013;013;"};
        int[] places = {15, 12, 4};
        for (int kind = 1; kind <= 3; kind++) {
            String text = texts[kind - 1];
            for (int part = 0; part < 4; part++) {
                Box x = asked(() -> withoutText().text(text)), twin = asked(BoundaryTests::withoutText);
                due("read() of '" + text + "'", x.read(), -10 - kind);
                due("fault()", x.fault(), places[kind - 1]);
                due("count(2)", x.count(2), 0);
                new Answers(x, part).without("fault()").compare(new Answers(twin, part).without("fault()"), "a faulty read()");
            }
        }
    }

    private static Box withoutText() {
        Box x = group(A4);
        x.keep("1021");
        x.keep("0123");
        x.keep("0102103210");
        x.keep("01021032");
        return x.draft("32");
    }

    private static void faultOfTheLatestRead() {
        Box x = new Box();
        due("fault() ahead of all", x.fault(), NONE);
        x.text("x");
        due("fault() ahead of read()", x.fault(), NONE);
        x.read();
        due("fault() at the first byte", x.fault(), 0);
        due("fault() again", x.fault(), 0);
        x.text("013;");
        due("fault() behind feed()", x.fault(), 0);
        x.letter(0);
        x.keep();
        due("fault() behind keep()", x.fault(), 0);
        due("read()", x.read(), 3);
        due("fault() of none", x.fault(), NONE);
        x.text("01x").read();
        due("fault()", x.fault(), 2);
        x.text("01  ").read();
        due("fault() of the latest", x.fault(), 4);
        due("read() of nothing", x.read(), 3);
        due("fault() of nothing", x.fault(), NONE);
    }

    // ---- promises 5, 6, 7

    interface OfTwo { long on(Box x, int a, int b); }

    /** For each number of MIRRORS: the last pair, and numbers outside at either place. */
    private static void pairsOutside(String call, OfTwo asking, int ofOne, int ofUnlike) {
        for (int n = 1; n <= 5; n++) {
            Box x = group("mirrors " + n + ";");
            due(call + " of the last", asking.on(x, n - 1, n - 1), ofOne);
            due(call + " of 0 and the last", asking.on(x, 0, n - 1), n == 1 ? ofOne : ofUnlike);
            due(call + " of the last and 0", asking.on(x, n - 1, 0), n == 1 ? ofOne : ofUnlike);
            for (int i : new int[] {n, n + 1, 5 + n, 24, 25, -1, -2, MIN, MAX}) {
                due(call + " of " + i + ", 0", asking.on(x, i, 0), OUTSIDE);
                due(call + " of 0, " + i, asking.on(x, 0, i), OUTSIDE);
                due(call + " of " + i + ", " + i, asking.on(x, i, i), OUTSIDE);
            }
        }
        for (int i : new int[] {4, -1}) {
            refused(call + " of " + i + ", 0", BoundaryTests::some, x -> asking.on(x, i, 0), OUTSIDE);
            refused(call + " of 0, " + i, BoundaryTests::some, x -> asking.on(x, 0, i), OUTSIDE);
        }
    }

    private static void numbersOfPairs() {
        String[] turns = {"2", "3", "4", "6", "never"};
        int[] told = {2, 3, 4, 6, 0};
        int[] upper = {0, -1, -2, -3, -2}, lower = {0, -1, -1, -1, -2};
        for (int t = 0; t < 5; t++) {
            for (String pair : new String[] {"34", "43", "04", "40"}) {
                Box x = group("mirrors 5;" + pair + turns[t] + ";");
                int i = Math.min(pair.charAt(0), pair.charAt(1)) - '0';
                due("turns(i, j) of " + turns[t], x.turns(i, 4), told[t]);
                due("turns(j, i) of " + turns[t], x.turns(4, i), told[t]);
                due("number(i, j) of " + turns[t], x.number(i, 4), upper[t]);
                due("number(j, i) of " + turns[t], x.number(4, i), lower[t]);
            }
        }
    }

    private static void counts() {
        Box x = new Box();
        due("count(0) at first", x.count(0), 3);
        Box y = full();
        due("count(0)", y.count(0), 2);
        due("count(1) at most", y.count(1), 40);
        due("count(2) at most", y.count(2), 120);
        due("count(3) at most", y.count(3), 20);
        due("count(-1)", y.count(-1), OUTSIDE);
        due("count(4)", y.count(4), OUTSIDE);
        for (int what : ELSEWHERE) due("count(" + what + ")", y.count(what), OUTSIDE);
        refused("count(4)", BoundaryTests::some, z -> z.count(4), OUTSIDE);
        refused("count(-1)", BoundaryTests::full, z -> z.count(-1), OUTSIDE);
    }

    // ---- promises 8, 9

    private static void letterBounds() {
        for (int n = 1; n <= 5; n++) {
            Box x = group("mirrors " + n + ";");
            due("letter(0)", x.letter(0), 1);
            due("letter(n - 1)", x.letter(n - 1), 2);
            due("letter(n)", x.letter(n), OUTSIDE);
            for (int s : ELSEWHERE) due("letter(" + s + ")", x.letter(s), OUTSIDE);
            due("count(3)", x.count(3), 2);
        }
        refused("letter(4)", BoundaryTests::some, x -> x.letter(4), OUTSIDE);
        refused("letter(-1)", BoundaryTests::some, x -> x.letter(-1), OUTSIDE);
    }

    private static void twentyLetters() {
        Box x = group(A4);
        for (int i = 1; i <= 20; i++) due("letter " + i, x.letter(3), i);
        due("letter 21", x.letter(0), FULL);
        due("count(3)", x.count(3), 20);
        due("keep()", x.keep(), 0);
        due("letter 1", x.letter(0), 1);
        Maker of20 = () -> some().draft("012301230123012301");
        due("letters", of20.make().count(3), 20);
        refused("letter 21", of20, y -> y.letter(0), FULL);
        refused("letter 21", BoundaryTests::full, y -> y.letter(1), FULL);
        refused("letter 21 outside", BoundaryTests::full, y -> y.letter(2), OUTSIDE);
        refused("letter 21 outside", of20, y -> y.letter(-1), OUTSIDE);
    }

    private static void keepNoLetters() {
        Box x = new Box();
        due("keep()", x.keep(), 0);
        due("keep() again", x.keep(), 0);
        due("elements", x.count(1), 1);
        due("keep() of 00", x.keep("00"), 0);
        due("keep() of 010101", x.keep("010101"), 0);
        due("keep() of 20 letters", x.keep("01210121012101210000"), 1);
        due("letters", x.count(3), 0);
    }

    private static void keepTwenty() {
        Box x = group(NEVER2);
        due("keep() of 20 letters", x.keep(ZERO), 1);
        due("length", x.length(1), 20);
        dueWord("keep() of 20 letters", x.word(1), ZERO);
        due("keep() of 20 others", x.keep(ONE), 2);
        dueWord("keep() of 20 others", x.word(2), ONE);
        due("letters", x.count(3), 0);
    }

    private static void keepKept() {
        Box x = group(A4);
        due("keep()", x.keep("010"), 1);
        due("keep() of another word", x.keep("101"), 1);
        due("keep() of a longer one", x.keep("33101"), 1);
        due("keep()", x.keep("02"), 2);
        due("keep()", x.keep("20"), 2);
        due("elements", x.count(1), 3);
        due("letters", x.count(3), 0);
        // A full one still tells the numbers of what it keeps.
        Box y = fullOfTwo();
        due("keep() of 0", y.keep("0"), 1);
        due("keep() of none", y.keep(), 0);
        due("keep() of 1 0 1", y.keep("00101"), one(3));
        due("keep() of the last", y.keep(ONE.substring(0, 19)), 39);
        due("letters", y.count(3), 0);
        due("elements", y.count(1), 40);
    }

    private static void keepForty() {
        Box x = group(NEVER2);
        x.keep("0");
        x.keep("1");
        for (int l = 2; l <= 20; l++) x.times(zero(l - 1), l % 2 == 0 ? 2 : 1);
        for (int l = 2; l <= 18; l++) x.times(one(l - 1), l % 2 == 0 ? 1 : 2);
        due("elements", x.count(1), 39);
        due("keep() of the fortieth", x.keep(ONE.substring(0, 19)), 39);
        due("elements", x.count(1), 40);
        due("keep() of one more", x.keep(ONE), FULL);
        refused("keep()", BoundaryTests::full, Box::keep, FULL);
        refused("keep() of 2", BoundaryTests::fullOfThree, Box::keep, FULL);
        Box y = full();
        due("keep()", y.keep(), FULL);
        due("the draft stays", y.count(3), 20);
        due("keep() again", y.keep(), FULL);
        due("the draft stays full", y.letter(0), FULL);
        y.read();
        due("the draft is empty behind read()", y.count(3), 0);
        due("keep() behind read()", y.keep("1"), 1);
    }

    // ---- promises 10 to 13

    interface OfElement { long on(Box x, int w); }

    /** The last element is known, the next one is not; nor is any number elsewhere. Nothing is changed by asking. */
    private static void unknown(String call, OfElement asking) {
        for (Maker maker : new Maker[] {Box::new, BoundaryTests::some, BoundaryTests::full, BoundaryTests::wide}) {
            Box x = maker.make();
            int m = x.count(1);
            for (int w : new int[] {m, m + 1, 40, 41, -1, MIN, MAX}) {
                if (w >= m || w < 0) due(call + " of " + w, asking.on(x, w), UNKNOWN);
            }
            due("elements", x.count(1), m);
            if (asking.on(x, m - 1) == UNKNOWN) complain(call + " of the last, " + (m - 1) + ", answered UNKNOWN");
        }
        int m = some().count(1);
        refused(call + " of an unknown element", BoundaryTests::some, x -> asking.on(x, m), UNKNOWN);
        refused(call + " of element -1", BoundaryTests::some, x -> asking.on(x, -1), UNKNOWN);
        refused(call + " of element 40", BoundaryTests::full, x -> asking.on(x, 40), UNKNOWN);
    }

    private static void unknowns() {
        test("10: UNKNOWN", () -> unknown("length(w)", (x, w) -> x.length(w)));
        test("11: UNKNOWN", () -> unknown("at(w, 0)", (x, w) -> x.at(w, 0)));
        test("12: UNKNOWN", () -> unknown("down(w, 0)", (x, w) -> x.down(w, 0)));
        test("13: UNKNOWN", () -> unknown("root(w, 0, 0)", (x, w) -> x.root(w, 0, 0)));
        test("14: UNKNOWN (u)", () -> unknown("times(w, 0)", (x, w) -> x.times(w, 0)));
        test("14: UNKNOWN (w)", () -> unknown("times(0, w)", (x, w) -> x.times(0, w)));
        test("15: UNKNOWN", () -> unknown("back(w)", (x, w) -> x.back(w)));
        test("16: UNKNOWN (u)", () -> unknown("below(w, 0)", (x, w) -> x.below(w, 0)));
        test("16: UNKNOWN (w)", () -> unknown("below(0, w)", (x, w) -> x.below(0, w)));
        test("17: UNKNOWN", () -> unknown("covers(w)", (x, w) -> x.covers(w)));
        test("18: UNKNOWN", () -> unknown("words(w)", (x, w) -> x.words(w)));
        test("19: UNKNOWN", () -> unknown("exchange(w, 0)", (x, w) -> x.exchange(w, 0)));
        test("20: UNKNOWN", () -> unknown("inversion(w, 0, 0)", (x, w) -> x.inversion(w, 0, 0)));
        test("21: UNKNOWN", () -> unknown("coset(w, 0, 0)", (x, w) -> x.coset(w, 0, 0)));
        test("21: UNKNOWN (what is left)", () -> unknown("coset(w, 1, 1)", (x, w) -> x.coset(w, 1, 1)));
        test("22: UNKNOWN", () -> unknown("both(w, 0, 0)", (x, w) -> x.both(w, 0, 0)));
        test("25: UNKNOWN", () -> unknown("order(w)", (x, w) -> x.order(w)));
        test("26: UNKNOWN", () -> unknown("shifts(w, 0)", (x, w) -> x.shifts(w, 0)));
        test("27: UNKNOWN (u)", () -> unknown("r(w, 0, 0)", (x, w) -> x.r(w, 0, 0)));
        test("27: UNKNOWN (w)", () -> unknown("r(0, w, 0)", (x, w) -> x.r(0, w, 0)));
        test("28: UNKNOWN (u)", () -> unknown("p(w, 0, 0)", (x, w) -> x.p(w, 0, 0)));
        test("28: UNKNOWN (w)", () -> unknown("p(0, w, 0)", (x, w) -> x.p(0, w, 0)));
        test("29: UNKNOWN (u)", () -> unknown("leans(w, 0)", (x, w) -> x.leans(w, 0)));
        test("29: UNKNOWN (w)", () -> unknown("leans(0, w)", (x, w) -> x.leans(0, w)));
        test("30: UNKNOWN", () -> unknown("rough(w)", (x, w) -> x.rough(w)));
    }

    private static void lengthBounds() {
        Box x = full();
        due("length(0)", x.length(0), 0);
        due("length(1)", x.length(1), 1);
        due("length of 20 letters", x.length(zero(20)), 20);
        due("length of the last", x.length(39), 19);
        Box y = group(A4);
        due("length of many letters", y.length(y.keep("01010101010101010101")), 2);
        due("length of the longest", y.length(y.keep("01021032103210321032")) <= 10 ? 0 : 1, 0);
    }

    private static void atBounds() {
        Box x = full();
        int w = zero(20);
        due("at(w, 0)", x.at(w, 0), 0);
        due("at(w, 19)", x.at(w, 19), 1);
        due("at(w, 20)", x.at(w, 20), NONE);
        due("at(w, -1)", x.at(w, -1), NONE);
        due("at(0, 0)", x.at(0, 0), NONE);
        due("at(0, -1)", x.at(0, -1), NONE);
        due("at(1, 0)", x.at(1, 0), 0);
        due("at(1, 1)", x.at(1, 1), NONE);
        due("at(2, 0)", x.at(2, 0), 1);
        due("at(2, 1)", x.at(2, 1), NONE);
        due("at(39, 18)", x.at(39, 18), 1);
        due("at(39, 19)", x.at(39, 19), NONE);
        for (int i : ELSEWHERE) due("at(w, " + i + ")", x.at(w, i), NONE);
        for (int i : ELSEWHERE) due("at(40, " + i + ")", x.at(40, i), UNKNOWN);
    }

    private static void firstOfTheShortest() {
        Box x = group("mirrors 5;013;123;233;343;");
        String[] told = {"20", "30", "31", "320", "101", "323", "3210", "120", "2102", "3102", "3323", "43", "42", "41", "40"};
        String[] due = {"02", "03", "13", "032", "010", "232", "3210", "102", "1210", "1032", "23", "43", "24", "14", "04"};
        for (int i = 0; i < told.length; i++) dueWord(told[i], x.word(x.keep(told[i])), due[i]);
    }

    private static void downBounds() {
        Box x = some();
        due("down(0, 0)", x.down(0, 0), 0);
        due("down(0, 1)", x.down(0, 1), 0);
        due("down(longest, 0)", x.down(3, 0), 15);
        due("down(longest, 1)", x.down(3, 1), 15);
        due("down(0123, 0)", x.down(2, 0), 1);
        due("down(0123, 1)", x.down(2, 1), 8);
        due("down(w, -1)", x.down(1, -1), OUTSIDE);
        due("down(w, 2)", x.down(1, 2), OUTSIDE);
        for (int what : ELSEWHERE) {
            due("down(w, " + what + ")", x.down(1, what), OUTSIDE);
            due("down(99, " + what + ")", x.down(99, what), UNKNOWN);
        }
        refused("down(w, 2)", BoundaryTests::some, y -> y.down(1, 2), OUTSIDE);
        refused("down(w, -1)", BoundaryTests::some, y -> y.down(1, -1), OUTSIDE);
        refused("down(7, 2)", BoundaryTests::some, y -> y.down(7, 2), UNKNOWN);
        // Bit k for k: the last of five.
        Box z = group("mirrors 5;");
        int last = z.keep("4"), all = z.keep("01234");
        due("down of mirror 4", z.down(last, 0), 16);
        due("down of all", z.down(all, 1), 31);
        Box one = group("mirrors 1;");
        due("down of the only one", one.down(one.keep("0"), 0), 1);
    }

    private static void rootBounds() {
        for (int n = 1; n <= 5; n++) {
            Box x = group("mirrors " + n + ";");
            int w = x.keep("0");
            for (int i = 0; i < n; i++) {
                for (int k = 0; k < n; k++) {
                    due("root(0, i, k)", x.root(0, i, k), i == k ? 1 : 0);
                    due("root(w, i, k)", x.root(w, i, k), i != k ? 0 : i == 0 ? -1 : 1);
                }
            }
            for (int i : new int[] {n, -1, MIN, MAX}) {
                due("root(w, " + i + ", 0)", x.root(w, i, 0), OUTSIDE);
                due("root(w, 0, " + i + ")", x.root(w, 0, i), OUTSIDE);
                due("root(2, " + i + ", 0)", x.root(2, i, 0), UNKNOWN);
                due("root(-1, 0, " + i + ")", x.root(-1, 0, i), UNKNOWN);
            }
        }
        refused("root(w, 4, 0)", BoundaryTests::some, y -> y.root(1, 4, 0), OUTSIDE);
        refused("root(w, 0, -1)", BoundaryTests::some, y -> y.root(1, 0, -1), OUTSIDE);
        refused("root(7, 4, 4)", BoundaryTests::some, y -> y.root(7, 4, 4), UNKNOWN);
    }

    private static void rootBeyondInt() {
        Box x = group("mirrors 5;016;026;036;046;126;136;146;236;246;346;");
        int w = x.keep("01234012340123401234");
        due("length", x.length(w), 20);
        due("root(w, 0, 0)", x.root(w, 0, 0), 9340090240L);
        due("root(w, 4, 0)", x.root(w, 4, 0), -7041909039L);
    }

    // ---- promises 14, 15

    private static void timesToTwenty() {
        Box x = group(NEVER2);
        int ten = x.keep(ZERO.substring(0, 10)), eleven = x.keep(ZERO.substring(0, 11)), one = x.keep("1");
        due("times to 20", x.times(ten, ten), 4);
        due("length", x.length(4), 20);
        dueWord("10 and 10", x.word(4), ZERO);
        due("times to 21", x.times(ten, eleven), LARGE);
        due("times from 20 down", x.times(4, one), 5);
        due("length", x.length(5), 19);
        due("times back to 20", x.times(5, one), 4);
        due("times to 40", x.times(4, 4), LARGE);
        due("elements", x.count(1), 6);
        Maker maker = () -> {
            Box y = group(NEVER2);
            y.keep(ZERO);
            y.keep("0");
            return y.draft("1").text("013");
        };
        refused("times to 21", maker, y -> y.times(1, 2), LARGE);
        refused("times to 40", maker, y -> y.times(1, 1), LARGE);
        due("from the left to 19", maker.make().times(2, 1), 3);
    }

    private static void timesWithZero() {
        Box x = full();
        due("times(0, 0)", x.times(0, 0), 0);
        for (int w = 0; w < 40; w++) {
            due("times(0, w)", x.times(0, w), w);
            due("times(w, 0)", x.times(w, 0), w);
        }
        due("elements", x.count(1), 40);
    }

    private static void timesAboveTwentyOnTheWay() {
        // The longest of F4 has 24 letters: on the way it comes to 21, at the end it has 18 and is kept already.
        Box x = group(F4);
        int a = x.keep("01210321021232102123"), b = x.keep("210321"), ab = x.keep("021021321021232102");
        due("length of u", x.length(a), 20);
        due("length of u, w", x.length(ab), 18);
        due("times(u, w)", x.times(a, b), LARGE);
        due("times(u, w, w back)", x.times(ab, x.back(b)), LARGE);
        // Down to 19 and up to 20 is inside, up to 21 is outside.
        Box v = group("mirrors 3;01never;02never;12never;");
        int twenty = v.keep(ZERO), back20 = v.keep("12"), to21 = v.keep("120");
        due("times down and up to 20", v.times(twenty, back20), 4);
        due("length", v.length(4), 20);
        due("times down and up to 21", v.times(twenty, to21), LARGE);
        // Not letters of u ahead of w: that way it does not come above 20.
        Box y = group(NEVER2);
        int long20 = y.keep(ZERO), zero = y.keep("0");
        due("times(0, ZERO)", y.times(zero, long20), 3);
        dueWord("times(0, ZERO)", y.word(3), ZERO.substring(1));
        due("times(ZERO, 0)", y.times(long20, zero), LARGE);
    }

    private static void timesFull() {
        Box x = full();
        due("times to one that is kept", x.times(zero(10), zero(9)), zero(19));
        due("times to the last", x.times(one(18), 2), one(19));
        due("times to element 0", x.times(1, 1), 0);
        due("times of one more", x.times(one(19), 1), FULL);
        due("elements", x.count(1), 40);
        refused("times of one more", BoundaryTests::full, y -> y.times(one(19), 1), FULL);
        refused("times of one more", BoundaryTests::full, y -> y.times(one(10), one(10)), FULL);
        refused("times LARGE ahead of FULL", BoundaryTests::full, y -> y.times(zero(20), 1), LARGE);
        refused("times LARGE ahead of FULL", BoundaryTests::full, y -> y.times(zero(20), zero(20)), LARGE);
        refused("times UNKNOWN ahead of LARGE", BoundaryTests::full, y -> y.times(zero(20), 40), UNKNOWN);
        refused("times UNKNOWN ahead of LARGE", BoundaryTests::full, y -> y.times(-1, zero(20)), UNKNOWN);
    }

    private static void backs() {
        Box x = full();
        due("back(0)", x.back(0), 0);
        due("back(1)", x.back(1), 1);
        for (int l = 1; l <= 19; l += 2) due("back of itself", x.back(zero(l)), zero(l));
        for (int l = 2; l <= 18; l += 2) due("back of another", x.back(zero(l)), one(l));
        due("back of one more", x.back(zero(20)), FULL);
        due("elements", x.count(1), 40);
        refused("back of one more", BoundaryTests::full, y -> y.back(zero(20)), FULL);
        refused("back(40)", BoundaryTests::full, y -> y.back(40), UNKNOWN);
        Box z = group(NEVER2);
        due("back of 20 letters", z.back(z.keep(ZERO)), 2);
        dueWord("back of 20 letters", z.word(2), ONE);
    }

    // ---- promises 16 to 20

    private static void belowEdges() {
        Box x = full();
        for (int w = 0; w < 40; w++) {
            due("below(0, w)", x.below(0, w), 1);
            due("below(w, w)", x.below(w, w), 1);
            due("below(w, 0)", x.below(w, 0), w == 0 ? 1 : 0);
        }
        // Of two mirrors that never turn back all that is shorter stands below.
        for (int l = 1; l <= 18; l++) {
            due("below of one less", x.below(zero(l), one(l + 1)), 1);
            due("below of one more", x.below(zero(l + 1), one(l)), 0);
            due("below of as many", x.below(zero(l), one(l)), 0);
        }
        due("below(ZERO, one of 19)", x.below(zero(20), one(19)), 0);
        due("below(one of 19, ZERO)", x.below(one(19), zero(20)), 1);
    }

    private static void coversEdges() {
        Box x = full();
        due("covers(0)", x.covers(0), 0);
        due("covers of a letter", x.covers(1), 1);
        due("covers of 2 letters", x.covers(zero(2)), 2);
        due("covers of 20 letters", x.covers(zero(20)), 2);
        Box y = group("mirrors 5;");
        due("covers of five that never meet", y.covers(y.keep("43210")), 5);
        // They need not be kept, and are not.
        due("elements", y.count(1), 2);
        Box z = some();
        due("covers of the longest", z.covers(3), 4);
    }

    private static void wordsTo12() {
        Box x = full();
        due("words(0)", x.words(0), 1);
        due("words of a letter", x.words(1), 1);
        due("words of 12 letters", x.words(zero(12)), 1);
        due("words of 13 letters", x.words(zero(13)), LARGE);
        due("words of 20 letters", x.words(zero(20)), LARGE);
        Box y = group("mirrors 4;013;123;133;");
        due("words of D4's longest, 12 letters", y.words(y.keep("012301230123")), 2316);
        Box z = group("mirrors 5;014;123;343;");
        due("words of B3 and A2, 12 letters", z.words(z.keep("012012012343")), 42 * 2 * 220);
        refused("words of 13 letters", BoundaryTests::full, u -> u.words(zero(13)), LARGE);
        refused("words of 18 letters", BoundaryTests::wide, u -> u.words(1), LARGE);
        refused("words of an unknown one", BoundaryTests::wide, u -> u.words(3), UNKNOWN);
    }

    private static void exchangeEdges() {
        Box x = some();
        due("exchange at the first place", x.exchange(3, 3), 0);
        due("exchange at the last place", x.exchange(3, 0), 9);
        due("exchange of the only letter", x.exchange(6, 2), 0);
        for (int s = 0; s < 4; s++) due("exchange(0, " + s + ")", x.exchange(0, s), NOT);
        due("exchange by the left one alone", x.exchange(2, 0), NOT);
        due("exchange by the right one", x.exchange(2, 3), 3);
        due("exchange(w, 4)", x.exchange(2, 4), OUTSIDE);
        for (int s : ELSEWHERE) {
            due("exchange(0, " + s + "): ahead of NOT", x.exchange(0, s), OUTSIDE);
            due("exchange(7, " + s + ")", x.exchange(7, s), UNKNOWN);
        }
        due("exchange(7, 0): ahead of NOT", x.exchange(7, 0), UNKNOWN);
        Box y = full();
        due("exchange at place 19", y.exchange(zero(20), 1), 19);
        due("exchange by the other", y.exchange(zero(20), 0), NOT);
        due("exchange outside, ahead of NOT", y.exchange(zero(20), 2), OUTSIDE);
        refused("exchange NOT", BoundaryTests::some, z -> z.exchange(2, 0), NOT);
        refused("exchange NOT of element 0", BoundaryTests::some, z -> z.exchange(0, 3), NOT);
        refused("exchange OUTSIDE", BoundaryTests::some, z -> z.exchange(0, 4), OUTSIDE);
        refused("exchange OUTSIDE", BoundaryTests::some, z -> z.exchange(3, -1), OUTSIDE);
        refused("exchange UNKNOWN", BoundaryTests::some, z -> z.exchange(7, 4), UNKNOWN);
    }

    private static void inversionEdges() {
        Box x = full();
        int w = zero(20);
        // The i-th is the row i, i + 1.
        for (int i = 0; i < 20; i++) {
            due("inversion(w, " + i + ", 0)", x.inversion(w, i, 0), i);
            due("inversion(w, " + i + ", 1)", x.inversion(w, i, 1), i + 1);
        }
        for (int k = 0; k < 2; k++) {
            due("inversion(w, 20, k)", x.inversion(w, 20, k), 0);
            due("inversion(w, -1, k)", x.inversion(w, -1, k), 0);
            due("inversion(0, 0, k)", x.inversion(0, 0, k), 0);
            due("inversion(1, 0, k)", x.inversion(1, 0, k), 1 - k);
            due("inversion(1, 1, k)", x.inversion(1, 1, k), 0);
            for (int i : ELSEWHERE) due("inversion(w, " + i + ", k)", x.inversion(w, i, k), 0);
        }
        for (int k : new int[] {2, -1, MIN, MAX}) {
            due("inversion(w, 0, " + k + ")", x.inversion(w, 0, k), OUTSIDE);
            due("inversion(w, 20, " + k + "): there is none such", x.inversion(w, 20, k), OUTSIDE);
            due("inversion(w, -1, " + k + "): there is none such", x.inversion(w, -1, k), OUTSIDE);
            due("inversion(40, 0, " + k + ")", x.inversion(40, 0, k), UNKNOWN);
            due("inversion(-1, -1, " + k + ")", x.inversion(-1, -1, k), UNKNOWN);
        }
        refused("inversion OUTSIDE", BoundaryTests::some, z -> z.inversion(3, 0, 4), OUTSIDE);
        refused("inversion OUTSIDE", BoundaryTests::some, z -> z.inversion(3, 10, -1), OUTSIDE);
        refused("inversion UNKNOWN", BoundaryTests::some, z -> z.inversion(7, 0, -1), UNKNOWN);
    }

    // ---- promises 21, 22

    private static final int[] NO_SETS = {-1, -2, MIN, MAX, 1 << 16};

    private static void cosetSets() {
        for (int n = 1; n <= 5; n++) {
            Box x = group("mirrors " + n + ";");
            int all = (1 << n) - 1;
            int w = x.keep("01234".substring(0, n));
            due("coset(w, 0, 0)", x.coset(w, 0, 0), w);
            due("coset(w, 0, 1)", x.coset(w, 0, 1), 0);
            due("coset(w, all, 0)", x.coset(w, all, 0), 0);
            due("coset(w, all, 1)", x.coset(w, all, 1), w);
            due("coset(0, all, 0)", x.coset(0, all, 0), 0);
            due("coset(0, all, 1)", x.coset(0, all, 1), 0);
            for (int what = 0; what < 2; what++) {
                due("coset(w, all + 1, what)", x.coset(w, all + 1, what), OUTSIDE);
                due("coset(9, all + 1, what)", x.coset(9, all + 1, what), UNKNOWN);
                for (int set : NO_SETS) due("coset(w, " + set + ", what)", x.coset(w, set, what), OUTSIDE);
            }
            due("elements", x.count(1), 2);
        }
        // Bit k for k.
        Box y = group("mirrors 5;");
        int w = y.keep("01234");
        dueWord("coset(w, 16, 0)", y.word(y.coset(w, 16, 0)), "0123");
        dueWord("coset(w, 16, 1)", y.word(y.coset(w, 16, 1)), "4");
        dueWord("coset(w, 1, 0)", y.word(y.coset(w, 1, 0)), "1234");
    }

    private static void bothSets() {
        for (int n = 1; n <= 5; n++) {
            Box x = group("mirrors " + n + ";");
            int all = (1 << n) - 1;
            int w = x.keep("01234".substring(0, n));
            due("both(w, 0, 0)", x.both(w, 0, 0), n);
            due("both(w, all, 0)", x.both(w, all, 0), 0);
            due("both(w, 0, all)", x.both(w, 0, all), 0);
            due("both(w, 0, last)", x.both(w, 0, 1 << n - 1), n - 1);
            due("both(w, last, 0)", x.both(w, 1 << n - 1, 0), n - 1);
            due("both(w, all + 1, 0)", x.both(w, all + 1, 0), OUTSIDE);
            due("both(w, 0, all + 1)", x.both(w, 0, all + 1), OUTSIDE);
            due("both(9, all + 1, all + 1)", x.both(9, all + 1, all + 1), UNKNOWN);
            for (int set : NO_SETS) {
                due("both(w, " + set + ", 0)", x.both(w, set, 0), OUTSIDE);
                due("both(w, 0, " + set + ")", x.both(w, 0, set), OUTSIDE);
            }
            due("elements", x.count(1), 2);
        }
    }

    private static void cosetWhat() {
        Box x = some();
        due("coset(w, 1, -1)", x.coset(1, 1, -1), OUTSIDE);
        due("coset(w, 1, 2)", x.coset(1, 1, 2), OUTSIDE);
        for (int what : ELSEWHERE) {
            due("coset(w, 1, " + what + ")", x.coset(1, 1, what), OUTSIDE);
            due("coset(w, 16, " + what + ")", x.coset(1, 16, what), OUTSIDE);
            due("coset(7, 16, " + what + ")", x.coset(7, 16, what), UNKNOWN);
        }
        due("elements", x.count(1), 7);
        refused("coset OUTSIDE (set)", BoundaryTests::some, y -> y.coset(3, 16, 0), OUTSIDE);
        refused("coset OUTSIDE (set)", BoundaryTests::some, y -> y.coset(3, -1, 1), OUTSIDE);
        refused("coset OUTSIDE (what)", BoundaryTests::some, y -> y.coset(3, 7, 2), OUTSIDE);
        refused("coset OUTSIDE (what)", BoundaryTests::some, y -> y.coset(3, 7, -1), OUTSIDE);
        refused("coset UNKNOWN", BoundaryTests::some, y -> y.coset(7, 16, 2), UNKNOWN);
    }

    private static void cosetKeepsOne() {
        // Just what is asked for is kept: LEAST, or what is left.
        Box x = group(A4);
        int w = x.keep("0102103210");
        due("coset(w, 7, 0)", x.coset(w, 7, 0), 2);
        due("elements", x.count(1), 3);
        dueWord("LEAST", x.word(2), "0123");
        due("coset(w, 7, 1)", x.coset(w, 7, 1), 3);
        dueWord("what is left", x.word(3), "010210");
        due("LEAST, what is left", x.times(2, 3), w);
        due("coset(w, 7, 0) again", x.coset(w, 7, 0), 2);
        due("coset(w, 7, 1) again", x.coset(w, 7, 1), 3);
        due("elements", x.count(1), 4);
    }

    private static void cosetFull() {
        Box x = fullOfThree();
        due("length", x.length(3), 19);
        due("coset(w, 0, 0)", x.coset(3, 0, 0), 3);
        due("coset(w, 0, 1)", x.coset(3, 0, 1), 0);
        due("coset(w, 7, 0)", x.coset(3, 7, 0), 0);
        due("coset(w, 7, 1)", x.coset(3, 7, 1), 3);
        due("coset(w, 4, 0)", x.coset(3, 4, 0), FULL);
        due("coset(w, 4, 1)", x.coset(3, 4, 1), FULL);
        due("coset(w, 3, 0)", x.coset(3, 3, 0), FULL);
        due("coset(w, 3, 1)", x.coset(3, 3, 1), FULL);
        due("coset(w, 1, 0)", x.coset(3, 1, 0), 3);
        due("elements", x.count(1), 40);
        for (int what = 0; what < 2; what++) {
            int which = what;
            refused("coset(w, 4, " + what + ")", BoundaryTests::fullOfThree, y -> y.coset(3, 4, which), FULL);
            refused("coset(w, 8, " + what + ")", BoundaryTests::fullOfThree, y -> y.coset(3, 8, which), OUTSIDE);
            refused("coset(40, 4, " + what + ")", BoundaryTests::fullOfThree, y -> y.coset(40, 4, which), UNKNOWN);
        }
        refused("coset(w, 4, 2)", BoundaryTests::fullOfThree, y -> y.coset(3, 4, 2), OUTSIDE);
        refused("coset(w, 4, -1)", BoundaryTests::fullOfThree, y -> y.coset(3, 4, -1), OUTSIDE);
    }

    private static void bothEdges() {
        Box x = some();
        for (int w = 0; w < 7; w++) {
            due("both(w, 0, 0)", x.both(w, 0, 0), x.length(w));
            due("both(w, 15, 0)", x.both(w, 15, 0), 0);
            due("both(w, 0, 15)", x.both(w, 0, 15), 0);
            due("both(w, 15, 15)", x.both(w, 15, 15), 0);
        }
        due("both(longest, 7, 7)", x.both(3, 7, 7), 1);
        due("both(longest, 14, 7)", x.both(3, 14, 7), 4);
        due("nothing is kept", x.count(1), 7);
        due("both(ZERO, 1, 2)", full().both(zero(20), 1, 2), 18);
        due("both(w, 3, 3) of a full one", fullOfThree().both(3, 3, 3), 1);
        refused("both OUTSIDE (left)", BoundaryTests::some, y -> y.both(3, 16, 0), OUTSIDE);
        refused("both OUTSIDE (left)", BoundaryTests::some, y -> y.both(3, -1, 0), OUTSIDE);
        refused("both OUTSIDE (right)", BoundaryTests::some, y -> y.both(3, 0, 16), OUTSIDE);
        refused("both OUTSIDE (right)", BoundaryTests::some, y -> y.both(3, 0, -1), OUTSIDE);
        refused("both UNKNOWN", BoundaryTests::some, y -> y.both(7, 16, -1), UNKNOWN);
    }

    // ---- promises 23 to 26

    private static void growthBounds() {
        Box x = group(F4);
        int[] due = {1, 4, 9, 16, 25, 36, 48, 60, 71, 80, 87, 92, 94};
        for (int l = 0; l <= 20; l++) due("growth(" + l + ")", x.growth(l), due[l <= 12 ? l : 24 - l]);
        due("growth(-1)", x.growth(-1), OUTSIDE);
        due("growth(21)", x.growth(21), OUTSIDE);
        due("growth(24)", x.growth(24), OUTSIDE);
        for (int l : ELSEWHERE) due("growth(" + l + ")", x.growth(l), OUTSIDE);
        Box y = group("mirrors 1;");
        due("growth(0)", y.growth(0), 1);
        due("growth(1)", y.growth(1), 1);
        due("growth(2): above the greatest", y.growth(2), 0);
        due("growth(20): above the greatest", y.growth(20), 0);
        due("growth(20) without end", group(NEVER2).growth(20), 2);
        due("growth(20) without end", group("013;023;123;").growth(20), 60);
        // ELEMENTS that are not kept count as well, and none is kept.
        due("elements", x.count(1), 1);
        refused("growth(21)", BoundaryTests::some, z -> z.growth(21), OUTSIDE);
        refused("growth(-1)", BoundaryTests::some, z -> z.growth(-1), OUTSIDE);
    }

    private static void growthTo2000() {
        int[] due = {1, 4, 11, 29, 74, 188, 478, 1215};
        Box x = group(JUST_2000);
        for (int l = 0; l < 8; l++) due("growth(" + l + ")", x.growth(l), due[l]);
        for (int l = 8; l <= 20; l++) due("growth(" + l + ")", x.growth(l), LARGE);
        // In any order.
        Box y = group(JUST_2000);
        due("growth(8) first", y.growth(8), LARGE);
        due("growth(7) then", y.growth(7), 1215);
        due("growth(20) then", y.growth(20), LARGE);
        due("growth(0) then", y.growth(0), 1);
        due("growth(7) again", y.growth(7), 1215);
        // The same, if of LENGTH 8 just one is found with the 2001st, and with 978 of LENGTH 8.
        String[] others = {"mirrors 4;014;02never;12never;134;233;", "mirrors 5;036;124;14never;24never;"};
        int[][] last = {{7, 1215}, {8, 978}};
        for (int i = 0; i < others.length; i++) {
            Box u = group(others[i]);
            due("growth(20) first", u.growth(20), LARGE);
            due("growth of the last LENGTH", u.growth(last[i][0]), last[i][1]);
            due("growth of the next LENGTH", u.growth(last[i][0] + 1), LARGE);
            Box v = group(others[i]);
            due("growth of the last LENGTH first", v.growth(last[i][0]), last[i][1]);
            due("growth of the next LENGTH then", v.growth(last[i][0] + 1), LARGE);
            due("growth of the last LENGTH again", v.growth(last[i][0]), last[i][1]);
        }
        int[] above = {1, 5, 17, 52, 154, 452};
        Box z = group(JUST_ABOVE_2000);
        due("growth(6) first", z.growth(6), LARGE);
        for (int l = 0; l < 6; l++) due("growth(" + l + ")", z.growth(l), above[l]);
        for (int l = 6; l <= 20; l++) due("growth(" + l + ")", z.growth(l), LARGE);
        due("growth(21): ahead of LARGE", z.growth(21), OUTSIDE);
        due("growth(-1): ahead of LARGE", z.growth(-1), OUTSIDE);
        Maker maker = () -> {
            Box u = group(JUST_2000);
            u.keep("0123");
            return u.draft("3").text("mirrors 1;");
        };
        refused("growth(8)", maker, u -> u.growth(8), LARGE);
        refused("growth(21)", maker, u -> u.growth(21), OUTSIDE);
        refused("growth(20)", BoundaryTests::wide, u -> u.growth(20), LARGE);
    }

    private static void whole(String text, int all, int longest) {
        Box x = group(text);
        due("whole(0) of " + text, x.whole(0), all);
        due("whole(1) of " + text, x.whole(1), longest);
        due("whole(-1) of " + text, x.whole(-1), OUTSIDE);
        due("whole(2) of " + text, x.whole(2), OUTSIDE);
        due("whole(1) of " + text + " again", x.whole(1), longest);
        due("whole(0) of " + text + " again", x.whole(0), all);
        Box y = group(text);
        due("growth(1) of " + text, y.growth(1), y.count(0));
        due("whole(1) first, of " + text, y.whole(1), longest);
    }

    private static void wholeTo2000() {
        whole("mirrors 1;", 2, 1);
        whole("mirrors 5;", 32, 5);
        whole("mirrors 5;013;123;233;343;", 720, 15);
        whole(F4, 1152, 24);
        whole("mirrors 5;013;123;233;243;", 1920, 20);
        whole("mirrors 5;013;124;233;", LARGE, LARGE); // 2304
        whole("mirrors 5;014;123;233;343;", LARGE, LARGE); // 3840
        whole("mirrors 5;016;236;", 288, 13);
        whole(JUST_2000, LARGE, LARGE);
        whole(ALL_NEVER, LARGE, LARGE);
        for (int what : ELSEWHERE) due("whole(" + what + ")", new Box().whole(what), OUTSIDE);
        refused("whole(2)", BoundaryTests::some, x -> x.whole(2), OUTSIDE);
        refused("whole(-1)", BoundaryTests::some, x -> x.whole(-1), OUTSIDE);
        refused("whole(2): ahead of LARGE", BoundaryTests::wide, x -> x.whole(2), OUTSIDE);
        refused("whole(0)", BoundaryTests::wide, x -> x.whole(0), LARGE);
        refused("whole(1)", BoundaryTests::wide, x -> x.whole(1), LARGE);
    }

    private static void wholeNotAbove30() {
        // 63 and 1489 of LENGTHS up to 31, so 2000 are not what is missed.
        whole(NEVER2, LARGE, LARGE);
        whole("013;023;123;", LARGE, LARGE);
        whole("01never;", LARGE, LARGE);
        refused("whole(0)", BoundaryTests::full, x -> x.whole(0), LARGE);
        refused("whole(1)", BoundaryTests::fullOfThree, x -> x.whole(1), LARGE);
    }

    private static void orderTo8() {
        Box x = some();
        due("order(0)", x.order(0), 1);
        due("order of a letter", x.order(6), 2);
        due("order of 8 letters", x.order(4), 5);
        due("order of 9 letters", x.order(5), LARGE);
        due("order of 10 letters", x.order(3), LARGE);
        Box y = full();
        due("order of 7 letters", y.order(zero(7)), 2);
        due("order of 8 letters", y.order(zero(8)), NONE);
        due("order of 9 letters", y.order(zero(9)), LARGE);
        due("order of 20 letters", y.order(zero(20)), LARGE);
        refused("order of 9 letters", BoundaryTests::some, z -> z.order(5), LARGE);
        refused("order of 9 letters", BoundaryTests::full, z -> z.order(one(9)), LARGE);
        refused("order UNKNOWN", BoundaryTests::some, z -> z.order(7), UNKNOWN);
    }

    private static void orderNone() {
        // Numbers that stay small: none of 30 times is ELEMENT 0.
        due("order of 01", full().order(zero(2)), NONE);
        Box x = group("013;023;123;");
        due("order of 012", x.order(x.keep("012")), NONE);
        // Numbers that come above 10 to the 12 long ahead of 30 times, and beyond a long.
        Box y = group(ALL_NEVER);
        due("order of 8 letters", y.order(y.keep("01234012")), NONE);
        due("order of 3 letters", y.order(y.keep("012")), NONE);
        due("order of 5 letters there and back", y.order(y.keep("01210")), 2);
        Box z = group("mirrors 5;016;234;");
        due("order of 6 and 4", z.order(z.keep("0123")), 12);
        due("order of 6", z.order(z.keep("01")), 6);
        Box u = group(F4);
        due("order of F4's 0123", u.order(u.keep("0123")), 12);
    }

    private static void shiftsTo300() {
        Box x = group(SHIFTS_300);
        int w = x.keep(WORD_300);
        due("shifts(w, 0)", x.shifts(w, 0), 14);
        due("shifts(w, 1)", x.shifts(w, 1), 130);
        due("shifts(w, 2)", x.shifts(w, 2), 300);
        Box y = group("mirrors 5;026;044;133;143;243;");
        int v = y.keep("40142020410410444313");
        due("shifts(v, 2)", y.shifts(v, 2), 300);
        due("shifts(v, 1)", y.shifts(v, 1), 52);
        due("shifts(v, 0)", y.shifts(v, 0), 14);
        due("nothing is kept", y.count(1), 2);
    }

    private static void shiftsAbove300() {
        String[] texts = {SHIFTS_301, "mirrors 5;013;043;123;133;343;", "mirrors 5;013;034;143;233;"};
        String[] words = {WORD_301, "23401314021312143102", "03231041432030001030"};
        for (int i = 0; i < texts.length; i++) {
            Box x = group(texts[i]);
            int w = x.keep(words[i]);
            for (int what = 0; what < 3; what++) due("shifts(w, " + what + ") of 301", x.shifts(w, what), LARGE);
            due("shifts(0, 2) behind it", x.shifts(0, 2), 1);
            due("shifts(w, 2) once more", x.shifts(w, 2), LARGE);
            due("shifts(w, 3): ahead of LARGE", x.shifts(w, 3), OUTSIDE);
            due("shifts(w, -1): ahead of LARGE", x.shifts(w, -1), OUTSIDE);
            due("shifts(2, 3): ahead of OUTSIDE", x.shifts(2, 3), UNKNOWN);
        }
        for (int what = 0; what < 3; what++) {
            int which = what;
            refused("shifts(w, " + what + ") of 301", BoundaryTests::wide, x -> x.shifts(1, which), LARGE);
        }
        refused("shifts(w, 3) of 301", BoundaryTests::wide, x -> x.shifts(1, 3), OUTSIDE);
        refused("shifts(3, 3)", BoundaryTests::wide, x -> x.shifts(3, 3), UNKNOWN);
    }

    private static void shiftsEdges() {
        Box x = some();
        due("shifts(0, 0)", x.shifts(0, 0), 0);
        due("shifts(0, 1)", x.shifts(0, 1), 1);
        due("shifts(0, 2)", x.shifts(0, 2), 1);
        // Only by 1 and by 3 a letter 2 is turned to another one, that is longer.
        due("shifts(2, 0)", x.shifts(6, 0), 1);
        due("shifts(2, 1)", x.shifts(6, 1), 1);
        due("shifts(2, 2)", x.shifts(6, 2), 1);
        Box y = full();
        for (int l = 1; l <= 19; l++) {
            // An odd one becomes shorter down to a letter; an even one is turned to that of the other letter first.
            due("shifts(w, 0)", y.shifts(zero(l), 0), l % 2 == 1 ? 1 : l);
            due("shifts(w, 1)", y.shifts(zero(l), 1), l % 2 == 1 ? 1 : 2);
            due("shifts(w, 2)", y.shifts(zero(l), 2), l % 2 == 1 ? (l + 1) / 2 : 2);
        }
        for (int what : ELSEWHERE) {
            due("shifts(w, " + what + ")", y.shifts(1, what), OUTSIDE);
            due("shifts(40, " + what + ")", y.shifts(40, what), UNKNOWN);
        }
        due("shifts(w, 3)", y.shifts(1, 3), OUTSIDE);
        refused("shifts OUTSIDE", BoundaryTests::some, z -> z.shifts(3, 3), OUTSIDE);
        refused("shifts OUTSIDE", BoundaryTests::some, z -> z.shifts(3, -1), OUTSIDE);
        refused("shifts UNKNOWN", BoundaryTests::some, z -> z.shifts(-1, -1), UNKNOWN);
    }

    // ---- promises 27 to 30

    private static void numbersOfR() {
        Box x = some();
        due("r(0, 0, 0)", x.r(0, 0, 0), 1);
        due("r(0, 0, 1)", x.r(0, 0, 1), 0);
        due("r(w, w, 0)", x.r(4, 4, 0), 1);
        due("r(w, w, 1)", x.r(4, 4, 1), 0);
        // The highest is at d: 8 and 7 here.
        due("r(0, w, 8)", x.r(0, 4, 8), 1);
        due("r(0, w, 9)", x.r(0, 4, 9), 0);
        due("r(0, w, 0)", x.r(0, 4, 0), 1);
        due("r(2, w, 7)", x.r(6, 4, 7), 1);
        due("r(2, w, 8)", x.r(6, 4, 8), 0);
        due("r(2, w, 0)", x.r(6, 4, 0), -1);
        // The draft, 32, has a 1 more behind it: of 01021032 no 1 is left behind 3.
        int apart = x.keep("1");
        for (int k = 0; k < 9; k++) {
            due("r(321, w, " + k + "), not below", x.r(apart, 4, k), 0);
            due("r(w, 0, " + k + "), not below", x.r(4, 0, k), 0);
            due("r(ten letters, w, " + k + "), not below", x.r(3, 4, k), 0);
        }
        for (int k : new int[] {64, 1 << 16, MAX - 1, MAX}) due("r(0, w, " + k + ")", x.r(0, 4, k), 0);
    }

    private static void numbersOfP() {
        Box x = some();
        due("p(0, 0, 0)", x.p(0, 0, 0), 1);
        due("p(0, 0, 1)", x.p(0, 0, 1), 0);
        due("p(w, w, 0)", x.p(4, 4, 0), 1);
        due("p(w, w, 1)", x.p(4, 4, 1), 0);
        int apart = x.keep("1");
        for (int k = 0; k < 5; k++) {
            due("p(321, w, " + k + "), not below", x.p(apart, 4, k), 0);
            due("p(w, 0, " + k + "), not below", x.p(4, 0, k), 0);
            due("p(ten letters, w, " + k + "), not below", x.p(3, 4, k), 0);
        }
        for (int k : new int[] {64, 1 << 16, MAX - 1, MAX}) due("p(0, w, " + k + ")", x.p(0, 4, k), 0);
        // The highest degree there can be: d is 8 and 7, so 3.
        Box y = group(STEEP);
        int steep = y.keep(STEEP_WORD), two = y.keep("2");
        int[] p = {1, 1, 2, 1, 0, 0, 0, 0, 0};
        for (int k = 0; k < p.length; k++) {
            due("p(0, steep, " + k + ")", y.p(0, steep, k), p[k]);
            due("p(2, steep, " + k + ")", y.p(two, steep, k), p[k]);
        }
    }

    interface OfPair { long on(Box x, int u, int w, int k); }

    private static void kBelowZero(String call, OfPair asking) {
        Box x = some();
        due(call + " at 0", asking.on(x, 0, 4, 0), 1);
        for (int k : new int[] {-1, -2, -1001, MIN + 1, MIN}) {
            due(call + "(0, w, " + k + ")", asking.on(x, 0, 4, k), OUTSIDE);
            due(call + "(w, 0, " + k + ")", asking.on(x, 4, 0, k), OUTSIDE);
            due(call + "(0, nine, " + k + "): ahead of LARGE", asking.on(x, 0, 5, k), OUTSIDE);
            due(call + "(7, nine, " + k + "): behind UNKNOWN", asking.on(x, 7, 5, k), UNKNOWN);
            due(call + "(0, 7, " + k + "): behind UNKNOWN", asking.on(x, 0, 7, k), UNKNOWN);
        }
        refused(call + " OUTSIDE", BoundaryTests::some, y -> asking.on(y, 0, 4, -1), OUTSIDE);
        refused(call + " OUTSIDE ahead of LARGE", BoundaryTests::some, y -> asking.on(y, 0, 5, -1), OUTSIDE);
        refused(call + " UNKNOWN ahead of OUTSIDE", BoundaryTests::some, y -> asking.on(y, 7, 5, -1), UNKNOWN);
    }

    /** LENGTH of w 8 at most; that of u has no bound, but then it does not stand below. */
    private static void lengthTo8(String call, OfPair asking, int ofSevenAndEight) {
        Box x = some();
        x.keep();
        int seven = x.keep("0102103");
        due("length", x.length(seven), 7);
        due(call + "(seven letters, eight)", asking.on(x, seven, 4, 0), ofSevenAndEight);
        for (int u : new int[] {5, 3}) due(call + "(" + u + ", eight), not below", asking.on(x, u, 4, 0), 0);
        for (int u : new int[] {0, 1, 4, 5, 3, seven}) {
            due(call + "(" + u + ", nine)", asking.on(x, u, 5, 0), LARGE);
            due(call + "(" + u + ", nine), far up", asking.on(x, u, 5, MAX), LARGE);
            due(call + "(" + u + ", ten)", asking.on(x, u, 3, 0), LARGE);
        }
        due(call + "(99, nine): UNKNOWN ahead of LARGE", asking.on(x, 99, 5, 0), UNKNOWN);
        refused(call + " LARGE", BoundaryTests::some, y -> asking.on(y, 0, 5, 0), LARGE);
        refused(call + " LARGE", BoundaryTests::full, y -> asking.on(y, 0, zero(9), 0), LARGE);
        refused(call + " LARGE", BoundaryTests::wide, y -> asking.on(y, 2, 1, 0), LARGE);
        refused(call + " UNKNOWN ahead of LARGE", BoundaryTests::some, y -> asking.on(y, 7, 5, 0), UNKNOWN);
    }

    private static void roughTo8() {
        Box x = some();
        due("rough(eight)", x.rough(4), 0);
        due("rough(nine)", x.rough(5), LARGE);
        due("rough(ten)", x.rough(3), LARGE);
        due("rough(7)", x.rough(7), UNKNOWN);
        refused("rough LARGE", BoundaryTests::some, y -> y.rough(5), LARGE);
        refused("rough LARGE", BoundaryTests::full, y -> y.rough(zero(9)), LARGE);
        refused("rough LARGE", BoundaryTests::wide, y -> y.rough(1), LARGE);
    }

    private static void leansEdges() {
        Box x = group(STEEP);
        int w = x.keep(STEEP_WORD), two = x.keep("2"), zero = x.keep("0"), one = x.keep("1");
        // d is 7, (d - 1) / 2 is 3; d is 8, and P has 1 at q q q all the same.
        due("p(2, w, 3)", x.p(two, w, 3), 1);
        due("leans(2, w)", x.leans(two, w), 1);
        due("p(0, w, 3)", x.p(0, w, 3), 1);
        due("leans(0, w), d even", x.leans(0, w), 0);
        due("leans(w, w), d 0", x.leans(w, w), 0);
        due("leans(0, 0), d 0", x.leans(0, 0), 0);
        due("leans(0, 2), d 1", x.leans(0, two), 1);
        due("leans(0, 1), not below", x.leans(zero, one), 0);
        due("leans(1 letter, 0), d below 0", x.leans(one, 0), 0);
        due("leans(w, 1 letter), d below 0", x.leans(w, one), 0);
        due("leans(2 letters, 1 letter)", x.leans(x.keep("01"), one), 0);
        // d is 1, but it does not stand below.
        due("leans(1, 02)", x.leans(one, x.keep("02")), 0);
    }

    private static void roughEdges() {
        Box x = group(STEEP);
        int w = x.keep(STEEP_WORD);
        due("rough(0)", x.rough(0), 0);
        due("rough of a letter", x.rough(x.keep("0")), 0);
        due("rough of two letters", x.rough(x.keep("01")), 0);
        due("rough of 8 letters", x.rough(w), 10);
        // They need not be kept.
        due("elements", x.count(1), 4);
        due("rough(1021)", some().rough(1), 2);
    }

    // ---- all together

    /** Which refusal is due: for each call with numbers inside and outside in all its places. */
    private static void whichOfTheRefusals() {
        int[] elements = {MIN, -1, 0, 1, 3, 4, 5, 6, 7, 40, MAX}, others = {MIN, -1, 0, 1, 2, 3, 4, 15, 16, 20, 21, MAX};
        int[] lengths = {0, 4, 4, 10, 8, 9, 1};
        Box x = some();
        int[] rights = new int[7];
        for (int w = 0; w < 7; w++) rights[w] = x.down(w, 1);
        for (int w : elements) {
            boolean known = w >= 0 && w < 7;
            for (int a : others) {
                if (x.calls > 400) x = some();
                boolean mirror = a >= 0 && a < 4, pick = a == 0 || a == 1;
                refusal("down(" + w + ", " + a + ")", x.down(w, a), !known ? UNKNOWN : pick ? 0 : OUTSIDE);
                refusal("exchange(" + w + ", " + a + ")", x.exchange(w, a),
                    !known ? UNKNOWN : !mirror ? OUTSIDE : (rights[w] >> a & 1) == 0 ? NOT : 0);
                refusal("shifts(" + w + ", " + a + ")", x.shifts(w, a), !known ? UNKNOWN : pick || a == 2 ? 0 : OUTSIDE);
                for (int b : others) {
                    if (x.calls > 400) x = some();
                    boolean both = mirror && b >= 0 && b < 4, sets = a >= 0 && a < 16 && b >= 0 && b < 16;
                    refusal("root(" + w + ", " + a + ", " + b + ")", Math.min(0, x.root(w, a, b)) < -1000 ? x.root(w, a, b) : 0,
                        !known ? UNKNOWN : both ? 0 : OUTSIDE);
                    refusal("inversion(" + w + ", " + a + ", " + b + ")", x.inversion(w, a, b),
                        !known ? UNKNOWN : b >= 0 && b < 4 ? 0 : OUTSIDE);
                    refusal("both(" + w + ", " + a + ", " + b + ")", x.both(w, a, b), !known ? UNKNOWN : sets ? 0 : OUTSIDE);
                }
            }
            for (int u : elements) {
                if (x.calls > 400) x = some();
                int due = !known || u < 0 || u > 6 ? UNKNOWN : lengths[w] > 8 ? LARGE : 0;
                refusal("below(" + u + ", " + w + ")", x.below(u, w), due == UNKNOWN ? UNKNOWN : 0);
                refusal("leans(" + u + ", " + w + ")", x.leans(u, w), due);
                for (int k : others) {
                    if (x.calls > 400) x = some();
                    refusal("r(" + u + ", " + w + ", " + k + ")", Math.max(-1006, x.r(u, w, k)), due == UNKNOWN ? UNKNOWN : k < 0 ? OUTSIDE : due);
                    refusal("p(" + u + ", " + w + ", " + k + ")", x.p(u, w, k), due == UNKNOWN ? UNKNOWN : k < 0 ? OUTSIDE : due);
                }
            }
            due("elements", x.count(1), 7);
            due("letters", x.count(3), 2);
            due("bytes", x.count(2), 12);
        }
    }

    /** A refusal must be just that one; 0 stands for an answer that is none. */
    private static void refusal(String call, long got, int due) {
        if (due != 0) due(call, got, due);
        else if (got >= LARGE && got <= UNKNOWN) complain(call + " answered " + got + ", due is no refusal");
    }

    public static void main(String[] args) {
        test("1: three mirrors as told", BoundaryTests::newObject);
        test("1: ELEMENT 0", BoundaryTests::onlyElementZero);
        test("2: n 1 .. 8", BoundaryTests::feedOneToEight);
        test("2: the highest of these first", BoundaryTests::feedHighestFirst);
        test("2: 120 bytes at most, the last that fit", BoundaryTests::feedTo120);
        test("2: FULL", BoundaryTests::feedAbove120);
        test("2: OUTSIDE, FULL", BoundaryTests::feedOutsideAheadOfFull);
        test("3: a text of nothing", BoundaryTests::emptyText);
        test("3: a text of 120 bytes", BoundaryTests::fullText);
        test("3: N 1 .. 5", BoundaryTests::oneToFiveMirrors);
        test("3: else 3", BoundaryTests::threeIfNotTold);
        test("3: mirrors first, if it is told", BoundaryTests::mirrorsFirst);
        test("3: I, J 0 .. N - 1, unlike", BoundaryTests::pairsInside);
        test("3: T 2, 3, 4, 6, never", BoundaryTests::turnsOfText);
        test("3: pairs that are not told: 2", BoundaryTests::pairsNotTold);
        test("3: elements but 0 are gone, the draft is empty", BoundaryTests::readMakesAnew);
        test("3: a FAULT changes nothing else", BoundaryTests::faultyReadChangesNothingElse);
        test("4: numbers are single figures", BoundaryTests::singleFigures);
        test("4: it cannot stand there", BoundaryTests::signsThatStand);
        test("4: words are letters side by side", BoundaryTests::wordsAreLetters);
        test("4: blanks may stand anywhere but within words", BoundaryTests::blanksAnywhere);
        test("4: the end at the text's length", BoundaryTests::endAtTheLength);
        test("4: at the first byte that has one", BoundaryTests::firstByteThatHasOne);
        test("4: a pair that was told already", BoundaryTests::toldAlready);
        test("4: the latest read(); NONE", BoundaryTests::faultOfTheLatestRead);
        test("5: OUTSIDE; 1 of one with itself", () -> pairsOutside("turns", (x, i, j) -> x.turns(i, j), 1, 2));
        test("6: OUTSIDE; A (i, i)", () -> pairsOutside("number", (x, i, j) -> x.number(i, j), 2, 0));
        test("5, 6: TURNS and their NUMBERS", BoundaryTests::numbersOfPairs);
        test("7: OUTSIDE; none and the most", BoundaryTests::counts);
        test("8: OUTSIDE", BoundaryTests::letterBounds);
        test("8: FULL: 20", BoundaryTests::twentyLetters);
        test("9: a draft of nothing", BoundaryTests::keepNoLetters);
        test("9: up to 20 letters", BoundaryTests::keepTwenty);
        test("9: one that is kept already", BoundaryTests::keepKept);
        test("9: FULL (40 at most)", BoundaryTests::keepForty);
        unknowns();
        test("10: LENGTH 0 .. 20", BoundaryTests::lengthBounds);
        test("11: NONE", BoundaryTests::atBounds);
        test("11: the first of the shortest", BoundaryTests::firstOfTheShortest);
        test("12: OUTSIDE; none and all", BoundaryTests::downBounds);
        test("13: OUTSIDE", BoundaryTests::rootBounds);
        test("13: numbers beyond an int", BoundaryTests::rootBeyondInt);
        test("14: LARGE, above 20", BoundaryTests::timesToTwenty);
        test("14: ELEMENT 0", BoundaryTests::timesWithZero);
        test("14: LARGE, letter by letter", BoundaryTests::timesAboveTwentyOnTheWay);
        test("14: FULL, LARGE ahead of it", BoundaryTests::timesFull);
        test("15: FULL", BoundaryTests::backs);
        test("16: none and all letters left out", BoundaryTests::belowEdges);
        test("17: one LENGTH less", BoundaryTests::coversEdges);
        test("18: LARGE, above 12", BoundaryTests::wordsTo12);
        test("19: OUTSIDE, NOT", BoundaryTests::exchangeEdges);
        test("20: 0; OUTSIDE", BoundaryTests::inversionEdges);
        test("21: OUTSIDE (a SET)", BoundaryTests::cosetSets);
        test("21: OUTSIDE (what)", BoundaryTests::cosetWhat);
        test("21: is kept", BoundaryTests::cosetKeepsOne);
        test("21: FULL", BoundaryTests::cosetFull);
        test("22: OUTSIDE (a SET)", BoundaryTests::bothSets);
        test("22: none and all", BoundaryTests::bothEdges);
        test("23: 0 .. 20", BoundaryTests::growthBounds);
        test("23: LARGE, more than 2000", BoundaryTests::growthTo2000);
        test("24: 2000 at most", BoundaryTests::wholeTo2000);
        test("24: none of a LENGTH above 30", BoundaryTests::wholeNotAbove30);
        test("25: LARGE, above 8", BoundaryTests::orderTo8);
        test("25: NONE", BoundaryTests::orderNone);
        test("26: just 300", BoundaryTests::shiftsTo300);
        test("26: LARGE, more than 300", BoundaryTests::shiftsAbove300);
        test("26: w, too; OUTSIDE", BoundaryTests::shiftsEdges);
        OfPair r = (x, u, w, k) -> x.r(u, w, k), p = (x, u, w, k) -> x.p(u, w, k), leans = (x, u, w, k) -> x.leans(u, w);
        test("27: the number at q to the k; 0: none", BoundaryTests::numbersOfR);
        test("27: OUTSIDE (k below 0)", () -> kBelowZero("r", r));
        test("27: LARGE, above 8", () -> lengthTo8("r", r, -1));
        test("28: the number at q to the k; 0: none", BoundaryTests::numbersOfP);
        test("28: OUTSIDE (k below 0)", () -> kBelowZero("p", p));
        test("28: LARGE, above 8", () -> lengthTo8("p", p, 1));
        test("29: d odd; else 0", BoundaryTests::leansEdges);
        test("29: LARGE, above 8", () -> lengthTo8("leans", leans, 1));
        test("30: none that is rough", BoundaryTests::roughEdges);
        test("30: LARGE, above 8", BoundaryTests::roughTo8);
        test("all: of several the first in this order", BoundaryTests::whichOfTheRefusals);
        System.out.println(wrong == 0 ? "all " + tests + " boundary tests hold" : wrong + " answers are not as due");
        if (wrong != 0) System.exit(1);
    }
}
