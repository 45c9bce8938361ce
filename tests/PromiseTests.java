/** For each promise: ordinary inputs, the edges that the document names, and wrong inputs. */
public final class PromiseTests {
    private static final int NONE = -1, UNKNOWN = -1001, OUTSIDE = -1002, NOT = -1003, FULL = -1004, LARGE = -1005;
    private static final int[] FAR = {-1, Integer.MIN_VALUE, Integer.MAX_VALUE, 1 << 16, -1001};
    private static final String A4 = "mirrors 4;013;123;233;";
    private static final String B4 = "mirrors 4;014;123;233;";
    private static final String D4 = "mirrors 4;013;123;133;";
    private static final String F4 = "mirrors 4;013;124;233;";
    private static final String D5 = "mirrors 5;013;123;233;243;";
    private static final String NEVER2 = "mirrors 2;01never;";
    private static final String NEVER5 = "mirrors 5;01never;02never;03never;04never;12never;13never;14never;23never;24never;34never;";
    private static int wrong = 0;
    private static String promise = "";

    private static void due(String call, long got, long want) {
        if (got == want) return;
        wrong++;
        System.out.println("promise " + promise + ": " + call + " answered " + got + ", due is " + want);
    }

    private static void feedAll(MirrorRoots x, String text) {
        for (int i = 0; i < text.length(); i++) x.feed(1, text.charAt(i));
    }

    private static int tell(MirrorRoots x, String text) {
        feedAll(x, text);
        return x.read();
    }

    private static MirrorRoots group(String text) {
        MirrorRoots x = new MirrorRoots();
        if (tell(x, text) < 1) throw new IllegalStateException(text);
        return x;
    }

    private static int keep(MirrorRoots x, String word) {
        for (int i = 0; i < word.length(); i++) x.letter(word.charAt(i) - '0');
        return x.keep();
    }

    private static String spelled(MirrorRoots x, int w) {
        StringBuilder out = new StringBuilder();
        for (int i = 0; i < x.length(w); i++) out.append(x.at(w, i));
        return out.toString();
    }

    private static void dueWord(String call, MirrorRoots x, int w, String want) {
        String got = spelled(x, w);
        if (got.equals(want)) return;
        wrong++;
        System.out.println("promise " + promise + ": " + call + " is the word " + got + ", due is " + want);
    }

    public static void main(String[] args) {
        promise = "1"; newObject();
        promise = "2"; feed();
        promise = "3"; read();
        promise = "4"; faults();
        promise = "5, 6"; pairs();
        promise = "7"; counts();
        promise = "8"; letters();
        promise = "9"; keeping();
        promise = "10, 11"; lengths();
        promise = "12"; downs();
        promise = "13"; roots();
        promise = "14"; products();
        promise = "15"; backs();
        promise = "16"; order();
        promise = "17"; covers();
        promise = "18"; leastWords();
        promise = "19"; exchanges();
        promise = "20"; inversions();
        promise = "21"; cosets();
        promise = "22"; bothSides();
        promise = "23"; growth();
        promise = "24"; wholes();
        promise = "25"; orders();
        promise = "26"; shifts();
        promise = "27"; bigR();
        promise = "28"; bigP();
        promise = "29"; leaning();
        promise = "30"; rough();
        promise = "3 (all anew)"; readForgets();
        System.out.println(wrong == 0 ? "all promises hold" : wrong + " answers are not as due");
        if (wrong != 0) System.exit(1);
    }

    private static void newObject() {
        MirrorRoots x = new MirrorRoots();
        due("mirrors", x.count(0), 3);
        due("elements", x.count(1), 1);
        due("bytes", x.count(2), 0);
        due("letters", x.count(3), 0);
        due("fault()", x.fault(), NONE);
        due("turns(0, 1)", x.turns(0, 1), 3);
        due("turns(2, 1)", x.turns(2, 1), 3);
        due("turns(2, 0)", x.turns(2, 0), 2);
        due("length(0)", x.length(0), 0);
        due("length(1)", x.length(1), UNKNOWN);
        due("two objects", new MirrorRoots().letter(1), 1);
    }

    private static void feed() {
        MirrorRoots x = new MirrorRoots();
        for (int n : new int[] {0, 9, -1, Integer.MIN_VALUE, Integer.MAX_VALUE}) due("feed(" + n + ")", x.feed(n, 0), OUTSIDE);
        due("nothing came", x.count(2), 0);
        for (int i = 1; i <= 14; i++) due("feed(8)", x.feed(8, 0x2020202020202020L), 8 * i);
        due("feed(8) to 120", x.feed(8, 0x2020202020202020L), 120);
        due("feed(1) behind 120", x.feed(1, 32), FULL);
        due("feed(9) behind 120", x.feed(9, 32), OUTSIDE);
        due("read() of 120 blanks", x.read(), 3);
        for (int i = 0; i < 113; i++) x.feed(1, 32);
        due("feed(8) to 121", x.feed(8, 0), FULL);
        due("feed(7) to 120", x.feed(7, 0x20202020202020L), 120);
        due("read()", x.read(), 3);
        // Only the lowest n bytes count, the highest of these first.
        due("feed(4)", x.feed(4, 0x7777777730313620L), 4);
        due("feed(1)", x.feed(1, -256L + ';'), 5);
        due("read() of '016 ;'", x.read(), 3);
        due("turns(0, 1)", x.turns(0, 1), 6);
    }

    private static void read() {
        MirrorRoots x = new MirrorRoots();
        due("read() of nothing", x.read(), 3);
        due("turns(0, 1)", x.turns(0, 1), 2);
        due("turns(1, 2)", x.turns(1, 2), 2);
        due("read()", tell(x, "  mirrors5 ; 4 0 never;1 0 4 ;32 6;"), 5);
        due("bytes", x.count(2), 0);
        due("turns(0, 4)", x.turns(0, 4), 0);
        due("turns(4, 0)", x.turns(4, 0), 0);
        due("turns(0, 1)", x.turns(0, 1), 4);
        due("turns(2, 3)", x.turns(2, 3), 6);
        due("turns(1, 4)", x.turns(1, 4), 2);
        int w = keep(x, "01");
        x.letter(4);
        due("faulty read()", tell(x, "mirrors 2;0 1 3"), -11);
        due("bytes", x.count(2), 0);
        due("fault()", x.fault(), 15);
        due("the group stays", x.count(0), 5);
        due("turns stay", x.turns(0, 4), 0);
        due("elements stay", x.length(w), 2);
        due("the draft stays", x.count(3), 1);
        due("read()", tell(x, "mirrors 2;0 1 3;"), 2);
        due("fault()", x.fault(), NONE);
        due("elements are gone", x.count(1), 1);
        due("the draft is empty", x.count(3), 0);
        due("length(1)", x.length(w), UNKNOWN);
    }

    private static void fault(String text, int kind, int at) {
        MirrorRoots x = new MirrorRoots();
        due("read() of '" + text + "'", tell(x, text), kind == 0 ? x.count(0) : -10 - kind);
        due("fault() of '" + text + "'", x.fault(), at);
    }

    private static void faults() {
        fault("", 0, NONE);
        fault("   ", 0, NONE);
        fault("mirrors 3;", 0, NONE);
        fault(" 0 1 2;02never ;", 0, NONE);
        fault("mirrors", 1, 7);
        fault("mirrors  ", 1, 9);
        fault("mirrors 3", 1, 9);
        fault("mirrors 33;", 1, 9);
        fault("mirrors ;", 1, 8);
        fault("mirrors x;", 1, 8);
        fault("mirrors never;", 1, 8);
        fault("mir rors 3;", 1, 0);
        fault(" mirrorss 3;", 1, 1);
        fault("Mirrors 3;", 1, 0);
        fault("mirrorS 3;", 1, 0);
        fault(";", 1, 0);
        fault("0 1 3;;", 1, 6);
        fault("mirrors 2;mirrors 2;", 1, 10);
        fault("0 1 3; mirrors 2;", 1, 7);
        fault("never", 1, 0);
        fault("0", 1, 1);
        fault("0 ", 1, 2);
        fault("0 1 ", 1, 4);
        fault("0 1 3", 1, 5);
        fault("0 1 3 3;", 1, 6);
        fault("0 1 nevermore;", 1, 4);
        fault("0 1 neve", 1, 4);
        fault("0 1 nevera;", 1, 4);
        fault("0 1 neverz;", 1, 4);
        fault("0 1 often;", 1, 4);
        fault("0 1 mirrors;", 1, 4);
        fault("minnors 3;", 1, 0);
        fault("0 1 ne ver;", 1, 4);
        fault("0 1 never4;", 1, 9);
        fault("0 1 neverA;", 1, 9);
        fault("0,1 3;", 1, 1);
        fault("0 1\t3;", 1, 3);
        fault("x 1 3;", 1, 0);
        fault("0 x 3;", 1, 2);
        fault("0 1 ;", 1, 4);
        fault("\u00ff", 1, 0);
        fault("\u0000", 1, 0);
        fault("mirrors 0;", 2, 8);
        fault("mirrors 6;", 2, 8);
        fault("mirrors 9", 2, 8);
        fault("3 1 3;", 2, 0);
        fault("0 3 3;", 2, 2);
        fault("1 1 3;", 2, 2);
        fault("mirrors 1;0 0 3;", 2, 12);
        fault("mirrors 1;1 0 3;", 2, 10);
        for (int t : new int[] {0, 1, 5, 7, 8, 9}) fault("0 1 " + t + ";", 2, 4);
        fault("0 1 3;0 1 3;", 3, 6);
        fault("0 1 2; 1 0 never;", 3, 7);
        // The fault of the pair stands at its I, ahead of those behind it.
        fault("0 1 3;0 1 9;", 3, 6);
        fault("0 1 3;1 0", 3, 6);
        fault("0 1 3;0 2 9;0 1 3;", 2, 10);
        fault("0 1 3;0 0 3;", 2, 8);
    }

    private static void pairs() {
        MirrorRoots x = group("mirrors 5;012;023;034;046;12never;");
        int[] turns = {2, 3, 4, 6};
        int[] upper = {0, -1, -2, -3};
        int[] lower = {0, -1, -1, -1};
        for (int j = 1; j < 5; j++) {
            due("turns(0, " + j + ")", x.turns(0, j), turns[j - 1]);
            due("turns(" + j + ", 0)", x.turns(j, 0), turns[j - 1]);
            due("number(0, " + j + ")", x.number(0, j), upper[j - 1]);
            due("number(" + j + ", 0)", x.number(j, 0), lower[j - 1]);
        }
        due("turns(2, 1)", x.turns(2, 1), 0);
        due("number(1, 2)", x.number(1, 2), -2);
        due("number(2, 1)", x.number(2, 1), -2);
        due("turns(3, 4)", x.turns(3, 4), 2);
        due("turns(4, 4)", x.turns(4, 4), 1);
        due("number(4, 4)", x.number(4, 4), 2);
        due("turns(5, 0)", x.turns(5, 0), OUTSIDE);
        due("number(0, 5)", x.number(0, 5), OUTSIDE);
        // The greater mirror told first changes nothing.
        MirrorRoots y = group("104;216;");
        due("number(0, 1)", y.number(0, 1), -2);
        due("number(1, 0)", y.number(1, 0), -1);
        due("number(1, 2)", y.number(1, 2), -3);
        for (int far : FAR) {
            due("turns(far, 0)", x.turns(far, 0), OUTSIDE);
            due("turns(0, far)", x.turns(0, far), OUTSIDE);
            due("number(far, 0)", x.number(far, 0), OUTSIDE);
            due("number(0, far)", x.number(0, far), OUTSIDE);
        }
    }

    private static void counts() {
        MirrorRoots x = group("mirrors 4;");
        keep(x, "0");
        x.feed(3, 0);
        x.letter(0);
        x.letter(0);
        due("count(0)", x.count(0), 4);
        due("count(1)", x.count(1), 2);
        due("count(2)", x.count(2), 3);
        due("count(3)", x.count(3), 2);
        due("count(4)", x.count(4), OUTSIDE);
        for (int far : FAR) due("count(far)", x.count(far), OUTSIDE);
    }

    private static void letters() {
        MirrorRoots x = group("mirrors 2;");
        due("letter(2)", x.letter(2), OUTSIDE);
        for (int far : FAR) due("letter(far)", x.letter(far), OUTSIDE);
        for (int i = 1; i <= 20; i++) due("letter", x.letter(i % 2), i);
        due("letter 21", x.letter(0), FULL);
        due("letter 21 outside", x.letter(2), OUTSIDE);
        due("letters", x.count(3), 20);
        due("keep()", x.keep(), 0);
        due("letters", x.count(3), 0);
    }

    /** 39 elements beside element 0: those that begin with 0, and those that begin with 1 but the longest. */
    private static MirrorRoots fullOfTwo() {
        MirrorRoots x = group(NEVER2);
        String zero = "01010101010101010101";
        String one = "10101010101010101010";
        for (int l = 1; l <= 20; l++) due("keep()", keep(x, zero.substring(0, l)), l);
        for (int l = 1; l <= 19; l++) due("keep()", keep(x, one.substring(0, l)), 20 + l);
        return x;
    }

    private static void keeping() {
        MirrorRoots x = new MirrorRoots();
        due("keep() of nothing", x.keep(), 0);
        due("keep() of 212", keep(x, "212"), 1);
        dueWord("keep()", x, 1, "121");
        due("keep() of 121", keep(x, "121"), 1);
        due("keep() of 20", keep(x, "20"), 2);
        dueWord("keep()", x, 2, "02");
        due("keep() of 0011", keep(x, "0011"), 0);
        x = fullOfTwo();
        due("elements", x.count(1), 40);
        due("keep() of one more", keep(x, "10101010101010101010"), FULL);
        due("the draft stays", x.count(3), 20);
        due("keep() again", x.keep(), FULL);
        due("elements", x.count(1), 40);
        tell(x, NEVER2);
        due("elements", x.count(1), 1);
        x = fullOfTwo();
        due("keep() of a kept one", keep(x, "011010"), 20 + 2);
        due("the draft is empty", x.count(3), 0);
    }

    private static void lengths() {
        MirrorRoots x = group(A4);
        int w = keep(x, "3210321");
        due("length", x.length(w), 7);
        dueWord("3210321", x, w, "2103210");
        due("at(w, 7)", x.at(w, 7), NONE);
        due("at(0, 0)", x.at(0, 0), NONE);
        for (int far : FAR) {
            due("length(far)", x.length(far), UNKNOWN);
            due("at(far, far)", x.at(far, far), UNKNOWN);
            due("at(w, far)", x.at(w, far), NONE);
        }
        due("length(2)", x.length(2), UNKNOWN);
        due("at(2, 0)", x.at(2, 0), UNKNOWN);
        int longest = keep(x, "3231230123");
        due("length of the longest", x.length(longest), 10);
        dueWord("the longest", x, longest, "0102103210");
    }

    private static void downs() {
        MirrorRoots x = group(A4);
        int w = keep(x, "0132");
        due("down(w, 0)", x.down(w, 0), 1 | 8);
        due("down(w, 1)", x.down(w, 1), 4);
        due("down(0, 0)", x.down(0, 0), 0);
        due("down(0, 1)", x.down(0, 1), 0);
        due("down(w, 2)", x.down(w, 2), OUTSIDE);
        due("down(2, 2)", x.down(2, 2), UNKNOWN);
        for (int far : FAR) {
            due("down(far, far)", x.down(far, far), UNKNOWN);
            due("down(w, far)", x.down(w, far), OUTSIDE);
        }
        int whole = keep(x, "0102103210");
        due("down of the longest", x.down(whole, 0), 15);
        due("down of the longest", x.down(whole, 1), 15);
    }

    private static void roots() {
        MirrorRoots x = group("mirrors 2;016;");
        int s = keep(x, "0");
        due("root(s, 0, 0)", x.root(s, 0, 0), -1);
        due("root(s, 0, 1)", x.root(s, 0, 1), 0);
        due("root(s, 1, 0)", x.root(s, 1, 0), 3);
        due("root(s, 1, 1)", x.root(s, 1, 1), 1);
        int t = keep(x, "1");
        due("root(t, 0, 0)", x.root(t, 0, 0), 1);
        due("root(t, 0, 1)", x.root(t, 0, 1), 1);
        // The last letter turns first: START ROOT 1 becomes -1 at 1 by t, then -3, -1 by s.
        int st = keep(x, "01");
        due("root(st, 1, 0)", x.root(st, 1, 0), -3);
        due("root(st, 1, 1)", x.root(st, 1, 1), -1);
        due("root(0, 1, 1)", x.root(0, 1, 1), 1);
        due("root(0, 1, 0)", x.root(0, 1, 0), 0);
        due("root(st, 2, 0)", x.root(st, 2, 0), OUTSIDE);
        due("root(st, 0, 2)", x.root(st, 0, 2), OUTSIDE);
        for (int far : FAR) {
            due("root(far, far, far)", x.root(far, far, far), UNKNOWN);
            due("root(st, far, 0)", x.root(st, far, 0), OUTSIDE);
            due("root(st, 0, far)", x.root(st, 0, far), OUTSIDE);
        }
        MirrorRoots y = group(NEVER2);
        int w = keep(y, "01010101010101010101");
        due("root(w, 0, 0)", y.root(w, 0, 0), 21);
        due("root(w, 0, 1)", y.root(w, 0, 1), 20);
        due("root(w, 1, 0)", y.root(w, 1, 0), -20);
        // Numbers beyond an int.
        MirrorRoots z = group("mirrors 5;016;026;036;046;126;136;146;236;246;346;");
        int large = keep(z, "01234012340123401234");
        due("root(large, 0, 0)", z.root(large, 0, 0), 9340090240L);
        due("root(large, 4, 0)", z.root(large, 4, 0), -7041909039L);
    }

    private static void products() {
        MirrorRoots x = group(A4);
        int u = keep(x, "012"), w = keep(x, "210");
        due("times(u, w)", x.times(u, w), 0);
        due("times(w, u)", x.times(w, u), 0);
        int s = keep(x, "3");
        int us = x.times(u, s);
        dueWord("times(u, s)", x, us, "0123");
        due("times(0, us)", x.times(0, us), us);
        due("times(us, 0)", x.times(us, 0), us);
        int su = x.times(s, u);
        dueWord("times(s, u)", x, su, "0132");
        due("elements", x.count(1), 6);
        for (int far : FAR) {
            due("times(far, 0)", x.times(far, 0), UNKNOWN);
            due("times(0, far)", x.times(0, far), UNKNOWN);
        }
        MirrorRoots y = fullOfTwo();
        due("times(20, 1)", y.times(20, 1), LARGE);
        due("times(20, 20): ahead of FULL", y.times(20, 20), LARGE);
        due("times(21, 19)", y.times(21, 19), FULL);
        due("times(20, 22)", y.times(20, 22), 18);
        // On the way it comes above 20, though at the end it does not.
        MirrorRoots z = group(F4);
        int a = keep(z, "01210321021232102123"), b20 = keep(z, "210321");
        due("length", z.length(a), 20);
        due("length", z.length(keep(z, "021021321021232102")), 18);
        due("times(a, b20): the 18 letters just kept", z.times(a, b20), LARGE);
        MirrorRoots v = group("mirrors 3;01never;024;124;");
        int b = keep(v, "01010101010101010101");
        int c = keep(v, "2010101010101010101");
        due("times(b, c)", v.times(b, c), LARGE);
        due("elements", v.count(1), 3);
    }

    private static void backs() {
        MirrorRoots x = group(A4);
        int w = keep(x, "0132");
        int back = x.back(w);
        dueWord("back(w)", x, back, "2103");
        due("back(back)", x.back(back), w);
        due("back(0)", x.back(0), 0);
        due("back(3)", x.back(3), UNKNOWN);
        for (int far : FAR) due("back(far)", x.back(far), UNKNOWN);
        MirrorRoots y = fullOfTwo();
        due("back(20)", y.back(20), FULL);
        due("back(18)", y.back(18), 20 + 18);
        due("back(19)", y.back(19), 19);
    }

    private static void order() {
        MirrorRoots x = group(A4);
        int w = keep(x, "1021"), u = keep(x, "11"), s = keep(x, "1"), t = keep(x, "3");
        int inside = keep(x, "012"), long1 = keep(x, "10213");
        due("below(0, w)", x.below(0, w), 1);
        due("below(u, w)", x.below(u, w), 1);
        due("below(s, w)", x.below(s, w), 1);
        due("below(t, w)", x.below(t, w), 0);
        due("below(w, w)", x.below(w, w), 1);
        due("below(w, s)", x.below(w, s), 0);
        due("below(012, 1021)", x.below(inside, w), 0);
        due("below(w, long)", x.below(w, long1), 1);
        due("below(102, 1021)", x.below(keep(x, "102"), w), 1);
        due("below(121, 1021)", x.below(keep(x, "121"), w), 1);
        due("below(201, 1021)", x.below(keep(x, "201"), w), 1);
        for (int far : FAR) {
            due("below(far, 0)", x.below(far, 0), UNKNOWN);
            due("below(0, far)", x.below(0, far), UNKNOWN);
        }
    }

    private static void covers() {
        MirrorRoots x = group(A4);
        due("covers(0)", x.covers(0), 0);
        due("covers of a letter", x.covers(keep(x, "2")), 1);
        due("covers of 010", x.covers(keep(x, "010")), 2);
        due("covers of 1021", x.covers(keep(x, "1021")), 4);
        due("covers of the longest", x.covers(keep(x, "0102103210")), 4);
        for (int far : FAR) due("covers(far)", x.covers(far), UNKNOWN);
        MirrorRoots y = group(NEVER2);
        due("covers of 20 letters", y.covers(keep(y, "01010101010101010101")), 2);
    }

    private static void leastWords() {
        MirrorRoots x = group(A4);
        due("words(0)", x.words(0), 1);
        due("words of 02", x.words(keep(x, "02")), 2);
        due("words of 0102", x.words(keep(x, "010")), 2);
        due("words of the longest", x.words(keep(x, "0102103210")), 768);
        for (int far : FAR) due("words(far)", x.words(far), UNKNOWN);
        MirrorRoots y = group("mirrors 5;");
        due("words of five that never meet", y.words(keep(y, "43210")), 120);
        MirrorRoots z = group("mirrors 5;014;123;343;");
        due("words of B3 and A2", z.words(keep(z, "012012012343")), 42 * 2 * 220);
        MirrorRoots d = group(D4);
        due("words of D4's longest", d.words(keep(d, "012301230123")), 2316);
        MirrorRoots e = group(NEVER2);
        due("words of 12 letters", e.words(keep(e, "010101010101")), 1);
        due("words of 13 letters", e.words(keep(e, "0101010101010")), LARGE);
    }

    private static void exchanges() {
        MirrorRoots x = group(A4);
        int w = keep(x, "0132");
        due("exchange(w, 2)", x.exchange(w, 2), 3);
        due("exchange(w, 3)", x.exchange(w, 3), NOT);
        int v = keep(x, "0102");
        due("exchange(0102, 1)", x.exchange(v, 1), NOT);
        due("exchange(0102, 2)", x.exchange(v, 2), 3);
        due("exchange(0, 0)", x.exchange(0, 0), NOT);
        due("exchange(w, 4)", x.exchange(w, 4), OUTSIDE);
        due("exchange(99, 4)", x.exchange(99, 4), UNKNOWN);
        int longest = keep(x, "0102103210");
        due("exchange(longest, 0)", x.exchange(longest, 0), 9);
        due("exchange(longest, 1)", x.exchange(longest, 1), 5);
        due("exchange(longest, 2)", x.exchange(longest, 2), 2);
        due("exchange(longest, 3)", x.exchange(longest, 3), 0);
        for (int far : FAR) {
            due("exchange(far, 0)", x.exchange(far, 0), UNKNOWN);
            due("exchange(w, far)", x.exchange(w, far), OUTSIDE);
        }
    }

    private static void inversions() {
        MirrorRoots x = group("mirrors 2;014;");
        int w = keep(x, "0101");
        // START ROOT 1; 0 turned by 1; 1 turned by 0, then 1; START ROOT 0 at last.
        int[][] want = {{0, 1}, {1, 1}, {2, 1}, {1, 0}};
        for (int i = 0; i < 4; i++) {
            for (int k = 0; k < 2; k++) due("inversion(w, " + i + ", " + k + ")", x.inversion(w, i, k), want[i][k]);
        }
        due("inversion(w, 4, 0)", x.inversion(w, 4, 0), 0);
        due("inversion(0, 0, 0)", x.inversion(0, 0, 0), 0);
        due("inversion(w, 0, 2)", x.inversion(w, 0, 2), OUTSIDE);
        due("inversion(w, 9, 2)", x.inversion(w, 9, 2), OUTSIDE);
        due("inversion(9, 9, 2)", x.inversion(9, 9, 2), UNKNOWN);
        for (int far : FAR) {
            due("inversion(far, 0, far)", x.inversion(far, 0, far), UNKNOWN);
            due("inversion(w, far, 0)", x.inversion(w, far, 0), 0);
            due("inversion(w, 0, far)", x.inversion(w, 0, far), OUTSIDE);
        }
    }

    private static void cosets() {
        MirrorRoots x = group(A4);
        int w = keep(x, "0132");
        due("coset(w, 0, 0)", x.coset(w, 0, 0), w);
        due("coset(w, 0, 1)", x.coset(w, 0, 1), 0);
        due("coset(w, 15, 0)", x.coset(w, 15, 0), 0);
        due("coset(w, 15, 1)", x.coset(w, 15, 1), w);
        dueWord("coset(w, 4, 0)", x, x.coset(w, 4, 0), "013");
        dueWord("coset(w, 4, 1)", x, x.coset(w, 4, 1), "2");
        dueWord("coset(w, 6, 0)", x, x.coset(w, 6, 0), "03");
        dueWord("coset(w, 6, 1)", x, x.coset(w, 6, 1), "12");
        dueWord("coset(w, 12, 0)", x, x.coset(w, 12, 0), "01");
        dueWord("coset(w, 12, 1)", x, x.coset(w, 12, 1), "32");
        int longest = keep(x, "0102103210");
        int least = x.coset(longest, 7, 0), rest = x.coset(longest, 7, 1);
        dueWord("coset(longest, 7, 0)", x, least, "0123");
        dueWord("coset(longest, 7, 1)", x, rest, "010210");
        due("least, rest", x.times(least, rest), longest);
        due("coset(w, 16, 0)", x.coset(w, 16, 0), OUTSIDE);
        due("coset(w, 0, 2)", x.coset(w, 0, 2), OUTSIDE);
        due("coset(99, 16, 2)", x.coset(99, 16, 2), UNKNOWN);
        for (int far : FAR) {
            due("coset(far, 0, 0)", x.coset(far, far, far), UNKNOWN);
            due("coset(w, far, 0)", x.coset(w, far, 0), OUTSIDE);
            due("coset(w, 0, far)", x.coset(w, 0, far), OUTSIDE);
        }
        cosetsWhenFull();
    }

    private static void cosetsWhenFull() {
        MirrorRoots x = group("mirrors 3;01never;");
        String zero = "01010101010101010101";
        int w = keep(x, "0101010101010101012");
        for (int l = 1; l <= 17; l++) keep(x, zero.substring(0, l));
        for (int l = 1; l <= 20; l++) keep(x, "1" + zero.substring(0, l - 1));
        due("elements", x.count(1), 39);
        keep(x, zero);
        due("elements", x.count(1), 40);
        due("coset(w, 4, 0)", x.coset(w, 4, 0), FULL);
        due("coset(w, 4, 1)", x.coset(w, 4, 1), FULL);
        due("coset(w, 3, 1)", x.coset(w, 3, 1), FULL);
        due("coset(w, 7, 0)", x.coset(w, 7, 0), 0);
        due("coset(w, 8, 0)", x.coset(w, 8, 0), OUTSIDE);
        due("elements", x.count(1), 40);
    }

    private static void bothSides() {
        MirrorRoots x = group(A4);
        int w = keep(x, "0132");
        due("both(w, 0, 0)", x.both(w, 0, 0), 4);
        due("both(w, 1, 4)", x.both(w, 1, 4), 2);
        due("both(w, 0, 12)", x.both(w, 0, 12), 2);
        due("both(w, 1, 0)", x.both(w, 1, 0), 3);
        due("both(w, 3, 0)", x.both(w, 3, 0), 2);
        due("both(w, 15, 0)", x.both(w, 15, 0), 0);
        int longest = keep(x, "0102103210");
        due("both(longest, 7, 7)", x.both(longest, 7, 7), 1);
        due("both(longest, 7, 14)", x.both(longest, 7, 14), 4);
        due("both(longest, 3, 3)", x.both(longest, 3, 3), 4);
        due("both(0, 15, 15)", x.both(0, 15, 15), 0);
        due("elements", x.count(1), 3);
        due("both(w, 16, 0)", x.both(w, 16, 0), OUTSIDE);
        due("both(w, 0, 16)", x.both(w, 0, 16), OUTSIDE);
        for (int far : FAR) {
            due("both(far, far, 0)", x.both(far, far, 0), UNKNOWN);
            due("both(w, far, 0)", x.both(w, far, 0), OUTSIDE);
            due("both(w, 0, far)", x.both(w, 0, far), OUTSIDE);
        }
    }

    private static void growth() {
        MirrorRoots x = group(A4);
        int[] a4 = {1, 4, 9, 15, 20, 22, 20, 15, 9, 4, 1, 0};
        for (int l = 0; l < a4.length; l++) due("growth(" + l + ")", x.growth(l), a4[l]);
        due("growth(20)", x.growth(20), 0);
        due("growth(21)", x.growth(21), OUTSIDE);
        for (int far : FAR) due("growth(far)", x.growth(far), OUTSIDE);
        MirrorRoots y = group("013;123;023;");
        due("growth(0) of an endless one", y.growth(0), 1);
        for (int l = 1; l <= 20; l++) due("growth(" + l + ") of an endless one", y.growth(l), 3 * l);
        MirrorRoots z = group(NEVER5);
        due("growth(4)", z.growth(4), 5 * 64);
        due("growth(5)", z.growth(5), 5 * 256);
        due("growth(6)", z.growth(6), LARGE);
        due("growth(5) again", z.growth(5), 5 * 256);
        MirrorRoots v = group(NEVER2);
        due("growth(20)", v.growth(20), 2);
    }

    private static void whole(String text, int all, int longest) {
        MirrorRoots x = group(text);
        due("whole(0) of " + text, x.whole(0), all);
        due("whole(1) of " + text, x.whole(1), longest);
        due("whole(2)", x.whole(2), OUTSIDE);
    }

    private static void wholes() {
        whole("mirrors 1;", 2, 1);
        whole("mirrors 5;", 32, 5);
        whole("mirrors 2;016;", 12, 6);
        whole(A4, 120, 10);
        whole(B4, 384, 16);
        whole(D4, 192, 12);
        whole(F4, 1152, 24);
        whole(D5, 1920, 20);
        whole("mirrors 5;013;123;233;343;", 720, 15);
        whole("mirrors 5;014;123;343;", 288, 12);
        whole("mirrors 5;013;124;233;", LARGE, LARGE);
        whole("mirrors 5;014;123;233;343;", LARGE, LARGE);
        whole(NEVER2, LARGE, LARGE);
        whole("013;123;023;", LARGE, LARGE);
        whole(NEVER5, LARGE, LARGE);
        MirrorRoots x = new MirrorRoots();
        for (int far : FAR) due("whole(far)", x.whole(far), OUTSIDE);
    }

    private static void orders() {
        MirrorRoots x = group(A4);
        due("order(0)", x.order(0), 1);
        due("order of a mirror", x.order(keep(x, "2")), 2);
        due("order of 0123", x.order(keep(x, "0123")), 5);
        due("order of 013", x.order(keep(x, "013")), 6);
        due("order of 8 letters", x.order(keep(x, "01021032")), 5);
        due("order of 10 letters", x.order(keep(x, "0102103210")), LARGE);
        for (int far : FAR) due("order(far)", x.order(far), UNKNOWN);
        MirrorRoots y = group("mirrors 5;016;234;");
        due("order of 6 and 4", y.order(keep(y, "0123")), 12);
        MirrorRoots f = group(F4);
        due("order of F4's 0123", f.order(keep(f, "0123")), 12);
        MirrorRoots z = group(NEVER5);
        due("order of a far one", z.order(keep(z, "01234012")), NONE);
        due("order of 9 letters", z.order(keep(z, "012340123")), LARGE);
        MirrorRoots v = group(NEVER2);
        due("order of a slow one", v.order(keep(v, "01")), NONE);
        due("order of a mirror", v.order(keep(v, "01010")), 2);
        due("order of 8 letters", v.order(keep(v, "01010101")), NONE);
    }

    private static void shifts() {
        MirrorRoots x = group(A4);
        int w = keep(x, "0123");
        due("shifts(w, 0)", x.shifts(w, 0), 4);
        due("shifts(w, 1)", x.shifts(w, 1), 8);
        due("shifts(w, 2)", x.shifts(w, 2), 8);
        int t = keep(x, "0123210");
        due("shifts(t, 0)", x.shifts(t, 0), 1);
        due("shifts(t, 1)", x.shifts(t, 1), 4);
        due("shifts(t, 2)", x.shifts(t, 2), 10);
        due("shifts(0, 0)", x.shifts(0, 0), 0);
        due("shifts(0, 1)", x.shifts(0, 1), 1);
        due("shifts(0, 2)", x.shifts(0, 2), 1);
        due("shifts(w, 0) again", x.shifts(w, 0), 4);
        due("shifts(w, 3)", x.shifts(w, 3), OUTSIDE);
        due("shifts(9, 3)", x.shifts(9, 3), UNKNOWN);
        for (int far : FAR) {
            due("shifts(far, far)", x.shifts(far, far), UNKNOWN);
            due("shifts(w, far)", x.shifts(w, far), OUTSIDE);
        }
        MirrorRoots y = group(NEVER5);
        int circle = keep(y, "01234");
        due("shifts in a circle", y.shifts(circle, 2), 5);
        MirrorRoots z = group("mirrors 5;013;123;233;34never;");
        int most = keep(z, "21321434323411323010");
        due("shifts to 300, the shortest", z.shifts(most, 0), 14);
        due("shifts to 300, of these", z.shifts(most, 1), 130);
        due("shifts to 300", z.shifts(most, 2), 300);
        MirrorRoots v = group("mirrors 5;013;123;143;236;");
        int more = keep(v, "14010231023204031204");
        for (int what = 0; what < 3; what++) due("shifts to 304", v.shifts(more, what), LARGE);
        due("shifts to 304, outside", v.shifts(more, 3), OUTSIDE);
    }

    private static void bigR() {
        MirrorRoots x = group(A4);
        int w = keep(x, "010"), s = keep(x, "0"), t = keep(x, "3"), st = keep(x, "01");
        // (q - 1) to the 3 and q (q - 1) together; (q - 1) to the 2.
        int[] want = {-1, 2, -2, 1, 0};
        for (int k = 0; k < 5; k++) due("r(0, 010, " + k + ")", x.r(0, w, k), want[k]);
        int[] one = {1, -2, 1, 0};
        for (int k = 0; k < 4; k++) due("r(0, 01, " + k + ")", x.r(s, w, k), one[k]);
        due("r(w, w, 0)", x.r(w, w, 0), 1);
        due("r(w, w, 1)", x.r(w, w, 1), 0);
        due("r(w, s, 0)", x.r(w, s, 0), 0);
        due("r(t, w, 0)", x.r(t, w, 0), 0);
        due("r(0, s, 0)", x.r(0, s, 0), -1);
        due("r(0, s, 1)", x.r(0, s, 1), 1);
        due("r(st, w, 0)", x.r(st, w, 0), -1);
        due("r(0, w, far)", x.r(0, w, Integer.MAX_VALUE), 0);
        int eight = keep(x, "01021032"), nine = keep(x, "010210321");
        due("length", x.length(eight), 8);
        due("length", x.length(nine), 9);
        due("r(0, eight, 8)", x.r(0, eight, 8), 1);
        due("r(0, eight, 0)", x.r(0, eight, 0), 1);
        due("r(0, nine, 0)", x.r(0, nine, 0), LARGE);
        due("r(nine, eight, 0)", x.r(nine, eight, 0), 0);
        due("r(0, nine, -1)", x.r(0, nine, -1), OUTSIDE);
        due("r(99, nine, -1)", x.r(99, nine, -1), UNKNOWN);
        due("r(0, 99, -1)", x.r(0, 99, -1), UNKNOWN);
        due("r(0, w, least)", x.r(0, w, Integer.MIN_VALUE), OUTSIDE);
    }

    private static void bigP() {
        MirrorRoots x = group(A4);
        int w = keep(x, "1021"), s = keep(x, "1"), t = keep(x, "0"), v = keep(x, "01210");
        due("p(1, 1021, 1)", x.p(s, w, 1), 1);
        due("p(0, 1021, 1)", x.p(t, w, 1), 0);
        due("p(0, 1021, 0)", x.p(t, w, 0), 1);
        due("p(w, w, 0)", x.p(w, w, 0), 1);
        due("p(w, w, 1)", x.p(w, w, 1), 0);
        due("p(w, s, 0)", x.p(w, s, 0), 0);
        due("p(v, w, 0)", x.p(v, w, 0), 0);
        due("p(v, e, 0)", x.p(v, 0, 0), 0);
        due("p(e, e, 0)", x.p(0, 0, 0), 1);
        due("p(0, 01210, 1)", x.p(0, v, 1), 1);
        due("p(0, w, far)", x.p(0, w, Integer.MAX_VALUE), 0);
        int eight = keep(x, "01021032"), nine = keep(x, "010210321");
        due("p(0, eight, 0)", x.p(0, eight, 0), 1);
        due("p(0, nine, 0)", x.p(0, nine, 0), LARGE);
        due("p(0, nine, -1)", x.p(0, nine, -1), OUTSIDE);
        due("p(99, nine, -1)", x.p(99, nine, -1), UNKNOWN);
        due("p(0, 99, 0)", x.p(0, 99, 0), UNKNOWN);
        due("p(nine, eight, 0)", x.p(nine, eight, 0), 0);
        // By the plain model (PlainModelRuns): P and R of element 0 and a word, rough.
        polynomials(NEVER5, "01234012", new int[] {1, 3, 0, 0, 0}, new int[] {1, -5, 10, -11, 10, -11, 10, -5, 1}, 8);
        polynomials("01never;02never;12never;", "02102102", new int[] {1, 5, 7, 0, 0}, new int[] {1, -3, 3, -1, 0, -1, 3, -3, 1}, 24);
        polynomials("01never;026;123;", "20201202", new int[] {1, 1, 2, 1, 0}, new int[] {1, -3, 4, -4, 4, -4, 4, -3, 1}, 10);
        polynomials("mirrors 5;036;043;123;133;243;", "31023142", new int[] {1, 3, 1, 0, 0}, new int[] {1, -5, 11, -15, 16, -15, 11, -5, 1}, 66);
        polynomials(B4, "3210123", new int[] {1, 2, 1, 0, 0}, new int[] {-1, 4, -9, 13, -13, 9, -4, 1, 0}, 20);
        polynomials(D4, "12301230", new int[] {1, 3, 0, 0, 0}, new int[] {1, -4, 7, -7, 6, -7, 7, -4, 1}, 40);
    }

    private static void polynomials(String text, String word, int[] p, int[] r, int rough) {
        MirrorRoots x = group(text);
        int w = keep(x, word);
        for (int k = 0; k < p.length; k++) due("p(0, " + word + ", " + k + ")", x.p(0, w, k), p[k]);
        for (int k = 0; k < r.length; k++) due("r(0, " + word + ", " + k + ")", x.r(0, w, k), r[k]);
        due("rough(" + word + ")", x.rough(w), rough);
    }

    private static void leaning() {
        MirrorRoots x = group(A4);
        int w = keep(x, "1021"), s = keep(x, "1"), t = keep(x, "0"), v = keep(x, "102"), z = keep(x, "01210");
        due("leans(1, 1021)", x.leans(s, w), 1);
        due("leans(0, 1021)", x.leans(t, w), 0);
        due("leans(102, 1021)", x.leans(v, w), 1);
        due("leans(e, 1021)", x.leans(0, w), 0);
        due("leans(w, w)", x.leans(w, w), 0);
        due("leans(w, v)", x.leans(w, v), 0);
        due("leans(w, s)", x.leans(w, s), 0);
        due("leans(e, 01210)", x.leans(0, z), 0);
        due("leans(02, 01210)", x.leans(keep(x, "02"), z), 1);
        due("leans(7 letters, 8 letters)", x.leans(keep(x, "0102103"), keep(x, "01021032")), 1);
        int nine = keep(x, "010210321");
        due("leans(0, nine)", x.leans(0, nine), LARGE);
        due("leans(99, nine)", x.leans(99, nine), UNKNOWN);
        due("leans(0, 99)", x.leans(0, 99), UNKNOWN);
        for (int far : FAR) due("leans(far, 0)", x.leans(far, 0), UNKNOWN);
    }

    private static void rough() {
        MirrorRoots x = group(A4);
        int w = keep(x, "1021"), v = keep(x, "01210"), u = keep(x, "0120");
        due("rough(1021)", x.rough(w), 2);
        due("rough(01210)", x.rough(v), 4);
        due("rough(0120)", x.rough(u), 0);
        due("rough(0)", x.rough(0), 0);
        due("rough(1021) again", x.rough(w), 2);
        due("rough(nine)", x.rough(keep(x, "010210321")), LARGE);
        for (int far : FAR) due("rough(far)", x.rough(far), UNKNOWN);
        MirrorRoots y = group(NEVER2);
        due("rough of two mirrors", y.rough(keep(y, "01010101")), 0);
    }

    /** What was counted for one group must not be told of the next. */
    private static void readForgets() {
        MirrorRoots x = group(A4);
        int w = keep(x, "1021");
        due("rough", x.rough(w), 2);
        due("shifts", x.shifts(w, 0), 2);
        due("whole", x.whole(0), 120);
        tell(x, "mirrors 4;");
        due("keep()", keep(x, "0123"), w);
        due("rough", x.rough(w), 0);
        due("shifts", x.shifts(w, 0), 4);
        due("shifts", x.shifts(w, 2), 1);
        due("whole", x.whole(0), 16);
        due("growth(2)", x.growth(2), 6);
        tell(x, "mirrors 9;");
        due("rough", x.rough(w), 0);
        due("whole", x.whole(0), 16);
    }
}
