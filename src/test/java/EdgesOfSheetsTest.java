import java.io.IOException;
import java.math.BigInteger;

/** Sentences that name a boundary: promises 31 to 38, SHEETS, FINDINGS, what is counted, the digest. */
public final class EdgesOfSheetsTest {
    private static final int NONE = -1, BAD = -2;
    private static final int NULL = Edge.NULL, INDEX = Edge.INDEX, CAST = Edge.CAST, STORE = Edge.STORE, SIZE = Edge.SIZE;
    private static final int LEAST = Edge.LEAST, MOST = Edge.MOST;
    private static final String SHEETS = "SHEETS 0 .. 3 are LOST (at first) or a row of a FORM: 0 bytes, 1 shorts, 2 ints, of 0 to 60 items (0 at first).";
    private static final String COPY = "n items of SHEET s, from i on, come to SHEET t (perhaps s, as they were), from j on: 1.";
    private static final String WRITE = "comes to a SHEET from item 0 on, as many as there are items, 24 at most: how many.";
    private static final String COUNT = "8 the number of the latest FINDING (0 before any). BAD.";

    public static void main(String[] args) throws IOException {
        Edge.open(args);
        Edge.says(31, "A SHEET is a new row of a FORM with n items: n. BAD: SHEET, FORM, above 60; SIZE.", EdgesOfSheetsTest::sheetBounds);
        Edge.says(31, SHEETS, EdgesOfSheetsTest::sheetItems);
        Edge.says(31, "5 SIZE: below 0.", EdgesOfSheetsTest::sheetBelowNought);
        Edge.says(31, "Refusals, the first that fits, in the order told at each act", EdgesOfSheetsTest::sheetBadAheadOfSize);
        Edge.says(32, "It is LOST: how many items it had. BAD; NULL.", EdgesOfSheetsTest::lost);
        Edge.says(32, "1 NULL: the SHEET is LOST", EdgesOfSheetsTest::lostForAllCalls);
        Edge.says(33, "BAD; NULL; CAST; INDEX.", EdgesOfSheetsTest::putRefused);
        Edge.says(33, "becomes v (the lowest bits that it has): 1.", EdgesOfSheetsTest::putLowestBits);
        Edge.says(33, "2 INDEX: there is no such item", EdgesOfSheetsTest::putIndex);
        Edge.says(34, "BAD: the least int; so are NULL, CAST, INDEX (count() 8 tells).", EdgesOfSheetsTest::getRefused);
        Edge.says(34, "Item i of it.", EdgesOfSheetsTest::getItems);
        Edge.says(35, COPY, EdgesOfSheetsTest::copied);
        Edge.says(35, "BAD: the SHEETS; NULL: s, t; STORE; INDEX: below 0, not so many.", EdgesOfSheetsTest::copyRefused);
        Edge.says(35, "INDEX: below 0, not so many.", EdgesOfSheetsTest::copyIndex);
        Edge.says(36, WRITE, EdgesOfSheetsTest::written);
        Edge.says(36, "LOAD (what = 0), HAPPY (1) behind HOURS 0 on", EdgesOfSheetsTest::writtenWhat);
        Edge.says(36, "BAD; NULL.", EdgesOfSheetsTest::writeRefused);
        Edge.says(37, "0 THINGS, 1 COUSINS, 2, 3 bytes of texts, 4 HANDS, 5 those that work, 6 HOLES, 7 FELT", EdgesOfSheetsTest::counted);
        Edge.says(37, COUNT, EdgesOfSheetsTest::countedFindings);
        Edge.says(37, "FINDINGS (answers -10 less the number; they change nothing but count() 8)", EdgesOfSheetsTest::findingNumbers);
        Edge.says(38, "h is 17; h becomes 31 h and each of: count() 0 to 7; of texts fault()", EdgesOfSheetsTest::digestOfNothing);
        Edge.says(38, "lend(0, it, 3, 4, NONE and 0) (as it is told), thief(), feel(0, it) (as it is told)", EdgesOfSheetsTest::digestWithoutCousins);
        Edge.says(38, "when(it, 0) (as it is told)", EdgesOfSheetsTest::digestWithoutThings);
        Edge.says(38, "as longs that wrap", EdgesOfSheetsTest::digestWraps);
        Edge.close(31, 38);
    }

    private static void sheetBounds() {
        Edge.boundsAnywhere("sheet(v, 0, 1)", 0, 3, (x, v) -> x.sheet(v, 0, 1));
        Edge.boundsAnywhere("sheet(0, v, 1)", 0, 2, (x, v) -> x.sheet(0, v, 1));
        for (int form = 0; form < 3; form++) {
            Due.is("sheet(0, " + form + ", 60)", new SharedPockets().sheet(0, form, 60), 60);
            int f = form;
            Edge.refusedAnywhere("sheet(0, " + form + ", 61)", BAD, x -> x.sheet(0, f, 61));
            Edge.refusedAnywhere("sheet(0, " + form + ", the greatest)", BAD, x -> x.sheet(0, f, MOST));
        }
    }

    private static void sheetItems() {
        for (int form = 0; form < 3; form++) {
            for (int n : new int[] {0, 1, 59, 60}) {
                SharedPockets x = new SharedPockets();
                Due.is("sheet(3, " + form + ", " + n + ")", x.sheet(3, form, n), n);
                for (int i = 0; i < n; i++) {
                    Due.is("get(3, " + form + ", " + i + "), 0 at first", x.get(3, form, i), 0);
                }
                Due.is("get(3, " + form + ", " + n + "), behind the last", x.get(3, form, n), LEAST);
                Due.is("count(8)", x.count(8), 2);
                Due.is("lose(3)", x.lose(3), n);
            }
        }
        SharedPockets anew = new SharedPockets();
        Due.fill(anew, 0, 2, 5, 6, 7);
        Due.is("sheet(0, 2, 2), made anew", anew.sheet(0, 2, 2), 2);
        Due.is("get(0, 2, 1), 0 at first", anew.get(0, 2, 1), 0);
        Due.is("get(0, 2, 2), it is shorter", anew.get(0, 2, 2), LEAST);
        Due.is("sheet(0, 2, 3), made anew", anew.sheet(0, 2, 3), 3);
        Due.is("get(0, 2, 2), 0 at first", anew.get(0, 2, 2), 0);
        Due.fill(anew, 1, 0, 5);
        anew.lose(1);
        anew.sheet(1, 0, 1);
        Due.is("get(1, 0, 0), it was LOST", anew.get(1, 0, 0), 0);
    }

    private static void sheetBelowNought() {
        for (int s = 0; s < 4; s++) {
            int which = s;
            Edge.refusedAnywhere("sheet(" + s + ", 0, -1)", SIZE, x -> x.sheet(which, 0, -1));
            Edge.refusedAnywhere("sheet(" + s + ", 2, the least)", SIZE, x -> x.sheet(which, 2, LEAST));
        }
        Edge.refusedAnywhere("sheet(1, 1, -1)", SIZE, x -> x.sheet(1, 1, -1));
        Due.is("sheet(0, 0, 0), it is not below", new SharedPockets().sheet(0, 0, 0), 0);
    }

    private static void sheetBadAheadOfSize() {
        Edge.refusedAnywhere("sheet(-1, 0, -1)", BAD, x -> x.sheet(-1, 0, -1));
        Edge.refusedAnywhere("sheet(4, 0, -1)", BAD, x -> x.sheet(4, 0, -1));
        Edge.refusedAnywhere("sheet(0, -1, -1)", BAD, x -> x.sheet(0, -1, -1));
        Edge.refusedAnywhere("sheet(0, 3, -1)", BAD, x -> x.sheet(0, 3, -1));
        Edge.refusedAnywhere("sheet(4, 3, 61)", BAD, x -> x.sheet(4, 3, 61));
    }

    private static void lost() {
        Edge.boundsAnywhere("lose(v)", 0, 3, (x, v) -> x.lose(v));
        SharedPockets x = Edge.made(Edge::full);
        int[] had = {60, 1, 0, 2};
        for (int s = 0; s < 4; s++) {
            Due.is("lose(" + s + ")", x.lose(s), had[s]);
            Due.is("lose(" + s + ") again", x.lose(s), NULL);
        }
        Edge.refused("lose(3), LOST", NULL, Edge::busy, y -> y.lose(3));
        Edge.refused("lose(0) of an empty one", NULL, Edge::empty, y -> y.lose(0));
        Edge.refused("lose(0) twice", NULL, y -> {
            y.sheet(0, 1, 4);
            y.lose(0);
        }, y -> y.lose(0));
    }

    private static void lostForAllCalls() {
        for (int s = 0; s < 4; s++) {
            int lost = s;
            int there = (s + 1) % 4;
            Edge.State state = x -> {
                Edge.full(x);
                x.lose(lost);
            };
            Edge.refused("read(" + s + ")", NULL, state, x -> x.read(lost));
            Edge.refused("put(" + s + ", 0, 0, 1)", NULL, state, x -> x.put(lost, 0, 0, 1));
            Edge.found("get(" + s + ", 0, 0)", LEAST, 1, state, x -> x.get(lost, 0, 0));
            Edge.refused("copy from " + s, NULL, state, x -> x.copy(lost, 0, there, 0, 0));
            Edge.refused("copy to " + s, NULL, state, x -> x.copy(there, 0, lost, 0, 0));
            Edge.refused("copy within " + s, NULL, state, x -> x.copy(lost, 0, lost, 0, 0));
            Edge.refused("write(0, " + s + ")", NULL, state, x -> x.write(0, lost));
            Edge.refused("lose(" + s + ")", NULL, state, x -> x.lose(lost));
        }
    }

    private static void putRefused() {
        Edge.boundsAnywhere("put(v, 0, 0, 1)", 0, 3, (x, v) -> x.put(v, 0, 0, 1));
        Edge.boundsAnywhere("put(0, v, 0, 1)", 0, 2, (x, v) -> x.put(0, v, 0, 1));
        Edge.refused("put(3, 3, 0, 1), BAD ahead of NULL", BAD, Edge::busy, x -> x.put(3, 3, 0, 1));
        Edge.refused("put(0, 3, 9, 1), BAD ahead of INDEX", BAD, Edge::busy, x -> x.put(0, 3, 9, 1));
        Edge.refused("put(3, 1, 99, 1), NULL ahead of INDEX", NULL, Edge::busy, x -> x.put(3, 1, 99, 1));
        Edge.refused("put(0, 1, 0, 1), bytes as shorts", CAST, Edge::busy, x -> x.put(0, 1, 0, 1));
        Edge.refused("put(0, 2, 0, 1), bytes as ints", CAST, Edge::busy, x -> x.put(0, 2, 0, 1));
        Edge.refused("put(1, 0, 0, 1), shorts as bytes", CAST, Edge::busy, x -> x.put(1, 0, 0, 1));
        Edge.refused("put(1, 2, 0, 1), shorts as ints", CAST, Edge::busy, x -> x.put(1, 2, 0, 1));
        Edge.refused("put(2, 0, 0, 1), ints as bytes", CAST, Edge::busy, x -> x.put(2, 0, 0, 1));
        Edge.refused("put(2, 1, 0, 1), ints as shorts", CAST, Edge::busy, x -> x.put(2, 1, 0, 1));
        Edge.refused("put(0, 1, 5, 1), CAST ahead of INDEX", CAST, Edge::busy, x -> x.put(0, 1, 5, 1));
        Edge.refused("put(0, 1, -1, 1), CAST ahead of INDEX", CAST, Edge::busy, x -> x.put(0, 1, -1, 1));
        Edge.State lost = x -> {
            x.sheet(0, 0, 3);
            x.lose(0);
        };
        Edge.refused("put(0, 1, 0, 1), NULL ahead of CAST", NULL, lost, x -> x.put(0, 1, 0, 1));
    }

    private static void putLowestBits() {
        bits(0, new int[][] {{0, 0}, {127, 127}, {128, -128}, {255, -1}, {256, 0}, {-1, -1}, {-128, -128}, {-129, 127}, {MOST, -1}, {LEAST, 0}});
        bits(1, new int[][] {{128, 128}, {-129, -129}, {32767, 32767}, {32768, -32768}, {65535, -1}, {65536, 0}, {-32768, -32768}, {-32769, 32767}, {MOST, -1}, {LEAST, 0}});
        bits(2, new int[][] {{32768, 32768}, {65536, 65536}, {-32769, -32769}, {MOST, MOST}, {LEAST + 1, LEAST + 1}, {LEAST, LEAST}});
    }

    private static void bits(int form, int[][] putAndGot) {
        SharedPockets x = new SharedPockets();
        x.sheet(1, form, 3);
        for (int[] p : putAndGot) {
            Due.is("put(1, " + form + ", 1, " + p[0] + ")", x.put(1, form, 1, p[0]), 1);
            Due.is("get(1, " + form + ", 1) of " + p[0], x.get(1, form, 1), p[1]);
        }
        Due.is("get(1, " + form + ", 0), beside it", x.get(1, form, 0), 0);
        Due.is("get(1, " + form + ", 2), beside it", x.get(1, form, 2), 0);
        Due.is("count(8), the least int was no FINDING", x.count(8), 0);
    }

    private static void putIndex() {
        for (int n : new int[] {0, 1, 60}) {
            for (int i : new int[] {-1, n, n + 1, LEAST, MOST}) {
                Edge.refused("put(2, 1, " + i + ", 5) of " + n, INDEX, x -> x.sheet(2, 1, n), x -> x.put(2, 1, i, 5));
            }
        }
        SharedPockets x = new SharedPockets();
        x.sheet(2, 1, 60);
        Due.is("put(2, 1, 0, 5), the first", x.put(2, 1, 0, 5), 1);
        Due.is("put(2, 1, 59, 6), the last", x.put(2, 1, 59, 6), 1);
        Due.is("get(2, 1, 0)", x.get(2, 1, 0), 5);
        Due.is("get(2, 1, 59)", x.get(2, 1, 59), 6);
        Due.is("get(2, 1, 58)", x.get(2, 1, 58), 0);
    }

    private static void getRefused() {
        for (int bad : new int[] {-1, 4, LEAST, MOST}) {
            Edge.found("get(" + bad + ", 0, 0)", LEAST, 0, Edge::full, x -> x.get(bad, 0, 0));
        }
        for (int bad : new int[] {-1, 3, LEAST, MOST}) {
            Edge.found("get(0, " + bad + ", 0)", LEAST, 0, Edge::full, x -> x.get(0, bad, 0));
            Edge.found("get(0, " + bad + ", 0), BAD ahead of NULL", LEAST, 0, Edge::empty, x -> x.get(0, bad, 0));
            Edge.found("get(0, " + bad + ", 99), BAD ahead of INDEX", LEAST, 0, Edge::full, x -> x.get(0, bad, 99));
        }
        Edge.found("get(3, 0, 99), NULL ahead of INDEX", LEAST, 1, Edge::busy, x -> x.get(3, 0, 99));
        Edge.found("get(0, 1, 0), CAST", LEAST, 3, Edge::busy, x -> x.get(0, 1, 0));
        Edge.found("get(1, 2, 0), CAST", LEAST, 3, Edge::busy, x -> x.get(1, 2, 0));
        Edge.found("get(2, 0, 0), CAST", LEAST, 3, Edge::busy, x -> x.get(2, 0, 0));
        Edge.found("get(0, 1, 5), CAST ahead of INDEX", LEAST, 3, Edge::busy, x -> x.get(0, 1, 5));
        Edge.found("get(0, 0, -1), INDEX", LEAST, 2, Edge::busy, x -> x.get(0, 0, -1));
        Edge.found("get(0, 0, 5), INDEX", LEAST, 2, Edge::busy, x -> x.get(0, 0, 5));
        Edge.found("get(2, 2, 0) of no items, INDEX", LEAST, 2, Edge::full, x -> x.get(2, 2, 0));
        Edge.State lost = x -> {
            x.sheet(0, 0, 3);
            x.lose(0);
        };
        Edge.found("get(0, 1, 0), NULL ahead of CAST", LEAST, 1, lost, x -> x.get(0, 1, 0));
    }

    private static void getItems() {
        Edge.found("get(0, 0, 0), the first", 1, 0, Edge::busy, x -> x.get(0, 0, 0));
        Edge.found("get(0, 0, 4), the last", 7, 0, Edge::busy, x -> x.get(0, 0, 4));
        Edge.found("get(1, 1, 2), the last", -4, 0, Edge::busy, x -> x.get(1, 1, 2));
        Edge.found("get(2, 2, 3), the last", 9, 0, Edge::busy, x -> x.get(2, 2, 3));
        Edge.found("get(0, 0, 59), the last", 5, 0, Edge::full, x -> x.get(0, 0, 59));
    }

    /** SHEETS 0 and 1 of five and of three ints. */
    private static void twoSheets(SharedPockets x) {
        Due.fill(x, 0, 2, 10, 11, 12, 13, 14);
        Due.fill(x, 1, 2, 20, 21, 22);
    }

    private static void copied(int s, int i, int t, int j, int n, int... want) {
        SharedPockets x = Edge.made(EdgesOfSheetsTest::twoSheets);
        String call = "copy(" + s + ", " + i + ", " + t + ", " + j + ", " + n + ")";
        Due.is(call, x.copy(s, i, t, j, n), 1);
        for (int k = 0; k < want.length; k++) {
            Due.is(call + ", then item " + k, x.get(t, 2, k), want[k]);
        }
        if (s != t) {
            Due.is(call + ", then the first of the other", x.get(s, 2, 0), 10 + 10 * s);
        }
        Due.is(call + ", then lose(" + t + ")", x.lose(t), want.length);
    }

    private static void copied() {
        copied(0, 0, 1, 0, 3, 10, 11, 12);
        copied(0, 2, 1, 0, 3, 12, 13, 14);
        copied(0, 4, 1, 2, 1, 20, 21, 14);
        copied(1, 0, 0, 0, 3, 20, 21, 22, 13, 14);
        copied(1, 0, 0, 2, 3, 10, 11, 20, 21, 22);
        copied(0, 0, 0, 1, 4, 10, 10, 11, 12, 13);
        copied(0, 1, 0, 0, 4, 11, 12, 13, 14, 14);
        copied(0, 0, 0, 0, 5, 10, 11, 12, 13, 14);
        copied(0, 0, 1, 0, 0, 20, 21, 22);
        copied(0, 5, 1, 3, 0, 20, 21, 22);
        copied(0, 5, 0, 5, 0, 10, 11, 12, 13, 14);
        SharedPockets x = new SharedPockets();
        x.sheet(2, 0, 60);
        x.sheet(3, 0, 60);
        x.put(2, 0, 59, 9);
        Due.is("copy(2, 0, 3, 0, 60), all of sixty", x.copy(2, 0, 3, 0, 60), 1);
        Due.is("get(3, 0, 59)", x.get(3, 0, 59), 9);
        x.sheet(0, 1, 0);
        Due.is("copy(0, 0, 0, 0, 0), none of none", x.copy(0, 0, 0, 0, 0), 1);
    }

    private static void copyRefused() {
        Edge.boundsAnywhere("copy(v, 0, 0, 0, 0)", 0, 3, (x, v) -> x.copy(v, 0, 0, 0, 0));
        Edge.boundsAnywhere("copy(0, 0, v, 0, 0)", 0, 3, (x, v) -> x.copy(0, 0, v, 0, 0));
        Edge.refused("copy(3, 0, 4, 0, 0), BAD ahead of NULL", BAD, Edge::busy, x -> x.copy(3, 0, 4, 0, 0));
        Edge.refused("copy(-1, 0, 3, 0, 0), BAD ahead of NULL", BAD, Edge::busy, x -> x.copy(-1, 0, 3, 0, 0));
        Edge.refused("copy(0, 9, 4, 9, 9), BAD ahead of INDEX", BAD, Edge::busy, x -> x.copy(0, 9, 4, 9, 9));
        Edge.refused("copy(3, 0, 0, 0, 0), NULL: s", NULL, Edge::busy, x -> x.copy(3, 0, 0, 0, 0));
        Edge.refused("copy(0, 0, 3, 0, 0), NULL: t", NULL, Edge::busy, x -> x.copy(0, 0, 3, 0, 0));
        Edge.refused("copy(3, 0, 1, 0, 0), NULL ahead of STORE", NULL, Edge::busy, x -> x.copy(3, 0, 1, 0, 0));
        Edge.refused("copy(1, 0, 3, 0, 0), NULL ahead of STORE", NULL, Edge::busy, x -> x.copy(1, 0, 3, 0, 0));
        Edge.refused("copy(3, -1, 0, -1, -1), NULL ahead of INDEX", NULL, Edge::busy, x -> x.copy(3, -1, 0, -1, -1));
        Edge.refused("copy(0, 0, 1, 0, 1), bytes to shorts", STORE, Edge::busy, x -> x.copy(0, 0, 1, 0, 1));
        Edge.refused("copy(1, 0, 0, 0, 1), shorts to bytes", STORE, Edge::busy, x -> x.copy(1, 0, 0, 0, 1));
        Edge.refused("copy(1, 0, 2, 0, 1), shorts to ints", STORE, Edge::busy, x -> x.copy(1, 0, 2, 0, 1));
        Edge.refused("copy(2, 0, 0, 0, 1), ints to bytes", STORE, Edge::busy, x -> x.copy(2, 0, 0, 0, 1));
        Edge.refused("copy(0, 0, 2, 0, 0), of none too", STORE, Edge::busy, x -> x.copy(0, 0, 2, 0, 0));
        Edge.refused("copy(0, -1, 1, 9, 99), STORE ahead of INDEX", STORE, Edge::busy, x -> x.copy(0, -1, 1, 9, 99));
    }

    private static void copyIndex() {
        int[][] wrong = {{-1, 0, 1}, {0, -1, 1}, {0, 0, -1}, {-1, 0, 0}, {0, -1, 0}, {3, 0, 3}, {0, 1, 3}, {0, 0, 4}, {5, 0, 1}, {0, 3, 1}, {6, 0, 0}, {0, 4, 0},
            {5, 3, -1}, {MOST, 0, 1}, {0, MOST, 1}, {0, 0, MOST}, {MOST, MOST, MOST}, {LEAST, 0, 1}, {0, LEAST, 1}, {0, 0, LEAST}, {LEAST, LEAST, LEAST},
            {1, 1, MOST}, {MOST, 0, 0}, {0, MOST, 0}, {LEAST, 0, LEAST}, {-1, -1, MOST}};
        for (int[] w : wrong) {
            Edge.refused("copy(0, " + w[0] + ", 1, " + w[1] + ", " + w[2] + ")", INDEX, EdgesOfSheetsTest::twoSheets, x -> x.copy(0, w[0], 1, w[1], w[2]));
        }
        int[][] within = {{0, 1, 5}, {1, 0, 5}, {0, 5, 1}, {5, 0, 1}, {0, 0, 6}, {6, 6, 0}};
        for (int[] w : within) {
            Edge.refused("copy(0, " + w[0] + ", 0, " + w[1] + ", " + w[2] + ")", INDEX, EdgesOfSheetsTest::twoSheets, x -> x.copy(0, w[0], 0, w[1], w[2]));
        }
    }

    private static void written() {
        for (int n : new int[] {0, 1, 23, 24, 25, 60}) {
            SharedPockets x = Due.with("50o", "o0;o.", "0p00 12t00 23p00");
            Due.fill(x, 1, 1, new int[n]);
            for (int i = 0; i < n; i++) {
                x.put(1, 1, i, 77);
            }
            Due.is("write(0, 1) of " + n + " items", x.write(0, 1), Math.min(n, 24));
            for (int h = 0; h < n; h++) {
                int load = h < 12 || h == 23 ? 5 : 0;
                Due.is("get(1, 1, " + h + ") of " + n + " items", x.get(1, 1, h), h < 24 ? load : 77);
            }
            Due.is("write(1, 1) of " + n + " items", x.write(1, 1), Math.min(n, 24));
            for (int h = 0; h < n; h++) {
                int happy = h < 12 || h == 23 ? 0 : 1;
                Due.is("get(1, 1, " + h + "), HAPPY, of " + n + " items", x.get(1, 1, h), h < 24 ? happy : 77);
            }
            Due.is("lose(1)", x.lose(1), n);
        }
    }

    private static void writtenWhat() {
        SharedPockets x = Due.with("90o;90o;90o;90o;90o;90o;90o;97o", "o0;o.;o.;o.;o.;o.;o.;o7", "1p00 1p01 1p02 1p03 1p04 1p05 1p06 1p77");
        x.room(72);
        for (int form = 0; form < 3; form++) {
            x.sheet(form, form, 2);
            x.write(0, form);
            Due.is("get(" + form + ", " + form + ", 0), LOAD of none", x.get(form, form, 0), 0);
            Due.is("get(" + form + ", " + form + ", 1), LOAD of all", x.get(form, form, 1), 72);
            x.write(1, form);
            Due.is("get(" + form + ", " + form + ", 0), HAPPY, the lowest bits of 129", x.get(form, form, 0), form == 0 ? -127 : 129);
            Due.is("get(" + form + ", " + form + ", 1), HAPPY, nobody", x.get(form, form, 1), 0);
        }
        SharedPockets nothing = new SharedPockets();
        Due.fill(nothing, 0, 0, 1, 2, 3);
        Due.is("write(0, 0) of nothing", nothing.write(0, 0), 3);
        Due.is("get(0, 0, 2) of nothing", nothing.get(0, 0, 2), 0);
    }

    private static void writeRefused() {
        Edge.boundsAnywhere("write(v, 0)", 0, 1, (x, v) -> x.write(v, 0));
        Edge.boundsAnywhere("write(0, v)", 0, 3, (x, v) -> x.write(0, v));
        Edge.refused("write(1, 3), LOST", NULL, Edge::busy, x -> x.write(1, 3));
        Edge.refused("write(2, 3), BAD ahead of NULL", BAD, Edge::busy, x -> x.write(2, 3));
        Edge.refused("write(-1, 3), BAD ahead of NULL", BAD, Edge::busy, x -> x.write(-1, 3));
        Edge.refused("write(0, 0) of an empty one", NULL, Edge::empty, x -> x.write(0, 0));
    }

    private static void counted() {
        Edge.boundsAnywhere("count(v)", 0, 8, (x, v) -> x.count(v));
        int[] none = {0, 0, 0, 0, 0, 0, 0, 0, 0};
        int[] some = {3, 3, 11, 8, 7, 5, 2, 2, 4};
        int[] all = {8, 8, 31, 23, 20, 9, 6, 8, 3};
        for (int what = 0; what <= 8; what++) {
            Due.is("count(" + what + ") of an empty one", Edge.made(Edge::empty).count(what), none[what]);
            Due.is("count(" + what + ") of a busy one", Edge.made(Edge::busy).count(what), some[what]);
            Due.is("count(" + what + ") of a full one", Edge.made(Edge::full).count(what), all[what]);
        }
    }

    private static void countedFindings() {
        SharedPockets x = new SharedPockets();
        Due.is("count(8), before any", x.count(8), 0);
        x.type(2, 0);
        x.undo(0);
        x.count(9);
        Due.is("count(8), BAD and NOT are none", x.count(8), 0);
        x.lose(0);
        Due.is("count(8), NULL", x.count(8), 1);
        x.sheet(0, 0, -1);
        Due.is("count(8), SIZE, the latest", x.count(8), 5);
        x.sheet(0, 0, 1);
        Due.is("count(8), as it was by what is not refused", x.count(8), 5);
        x.put(0, 0, 1, 0);
        Due.is("count(8), INDEX, the latest", x.count(8), 2);
        x.put(0, 3, 0, 0);
        x.digest();
        Due.is("count(8), as it was by BAD and digest()", x.count(8), 2);
    }

    private static void findingNumbers() {
        Edge.found("NULL", -11, 1, Edge::busy, x -> x.lose(3));
        Edge.found("INDEX", -12, 2, Edge::busy, x -> x.put(0, 0, 5, 1));
        Edge.found("CAST", -13, 3, Edge::busy, x -> x.put(0, 1, 0, 1));
        Edge.found("STORE", -14, 4, Edge::busy, x -> x.copy(0, 0, 1, 0, 1));
        Edge.found("SIZE", -15, 5, Edge::busy, x -> x.sheet(0, 0, -1));
    }

    private static long folded(long... values) {
        long h = 17;
        for (long v : values) {
            h = 31 * h + v;
        }
        return h;
    }

    private static void digestOfNothing() {
        long want = folded(0, 0, 0, 0, 0, 0, 0, 0, -1, -1, 0, 0, 0, 0, 0, 0, 0, 0, 0, 0, 0, 0, 0, 0, 0, -1, 0, -1, 0);
        Due.is("digest() of nothing", new SharedPockets().digest(), want);
        SharedPockets wrong = Due.with("5", "o.;");
        long faults = folded(0, 0, 1, 3, 0, 0, 0, 0, 1, 3, 0, 0, 0, 0, 0, 0, 0, 0, 0, 0, 0, 0, 0, 0, 0, -1, 0, -1, 0);
        Due.is("digest() of two FAULTS", wrong.digest(), faults);
        SharedPockets told = new SharedPockets();
        told.hand(0, 0, 0, 0);
        told.hole(0, 1);
        told.felt(0, 0, 1);
        told.lose(0);
        long counts = folded(0, 0, 0, 0, 1, 0, 1, 1, -1, -1, 0, 0, 0, 0, 0, 0, 0, 0, 0, 0, 0, 0, 0, 0, 0, 0, 0, 0, -1, 0);
        Due.is("digest() of one of each, and a FINDING, which is not in it", told.digest(), counts);
    }

    /** COUSIN 0 is not there: lend() and feel() are BAD. */
    private static void digestWithoutCousins() {
        long want = folded(1, 0, 3, 0, 0, 0, 0, 0, -1, -1, 5, 1, 2, 9, 9, -1, -2, -2, 0, -2, 1, 1, 9,
            0, 0, 0, 0, 0, 0, 0, 0, 0, 0, 0, 0, 0, 0, 0, -1, 0, -1, 0);
        Due.is("digest(), no COUSINS", Due.with("51f", "").digest(), want);
    }

    /** THING 0 is not there: when() is BAD. */
    private static void digestWithoutThings() {
        long want = folded(0, 2, 0, 5, 0, 0, 0, 0, -1, -1, 1, 7, 0, -2, 0, -1, 0, -2,
            0, 0, 0, 0, 0, 0, 0, 0, 0, 0, 0, 0, 0, 0, 0, -1, 0, -1, 0);
        Due.is("digest(), no THINGS", Due.with("", "h7;o.").digest(), want);
    }

    /** By so many foldings of 31 it is far beyond a long; it is the same at each asking, and changes nothing. */
    private static void digestWraps() {
        BigInteger h = BigInteger.valueOf(17);
        long[] values = {0, 0, 0, 0, 0, 0, 0, 0, -1, -1, 0, 0, 0, 0, 0, 0, 0, 0, 0, 0, 0, 0, 0, 0, 0, -1, 0, -1, 0};
        for (long v : values) {
            h = h.multiply(BigInteger.valueOf(31)).add(BigInteger.valueOf(v));
        }
        Due.is("it is beyond a long", h.bitLength() > 64 ? 1 : 0, 1);
        Due.is("digest() of nothing", new SharedPockets().digest(), h.longValue());
        for (Edge.State state : new Edge.State[] {Edge::empty, Edge::busy, Edge::full}) {
            long first = Edge.made(state).digest();
            Edge.found("digest()", first, 0, state, x -> x.digest());
        }
    }
}
