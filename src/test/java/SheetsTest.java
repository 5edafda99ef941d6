/** Promises 31 to 37: SHEETS, FINDINGS and what is counted. */
public final class SheetsTest {
    private static final int LEAST = Integer.MIN_VALUE;
    private static final int NULL = -11, INDEX = -12, CAST = -13, STORE = -14, SIZE = -15;

    public static void main(String[] args) {
        promise31();
        promise32();
        promise33();
        promise34();
        promise35();
        promise35Wrong();
        promise36();
        promise36Forms();
        promise37();
        Due.end();
    }

    private static void promise31() {
        SharedPockets x = new SharedPockets();
        int[][] bad = {{-1, 0, 1}, {4, 0, 1}, {0, -1, 1}, {0, 3, 1}, {0, 0, 61}, {4, 0, -1}, {0, 3, -1}};
        for (int[] b : bad) {
            Due.is("31: a wrong sheet", x.sheet(b[0], b[1], b[2]), -2);
        }
        Due.is("31: count(8) is not by BAD", x.count(8), 0);
        Due.is("31: sheet(0, 0, -1)", x.sheet(0, 0, -1), SIZE);
        Due.is("31: count(8)", x.count(8), 5);
        Due.is("31: sheet(0, 0, least)", x.sheet(0, 0, LEAST), SIZE);
        Due.is("31: lose(0), there was none made", x.lose(0), NULL);
        Due.is("31: sheet(0, 0, 0)", x.sheet(0, 0, 0), 0);
        Due.is("31: lose(0)", x.lose(0), 0);
        Due.is("31: sheet(3, 2, 60)", x.sheet(3, 2, 60), 60);
        Due.is("31: get(3, 2, 59)", x.get(3, 2, 59), 0);
        x.put(3, 2, 5, 77);
        Due.is("31: sheet(3, 2, -1), made before", x.sheet(3, 2, -1), SIZE);
        Due.is("31: get(3, 2, 5) is as it was", x.get(3, 2, 5), 77);
        Due.is("31: sheet(3, 2, 9) anew", x.sheet(3, 2, 9), 9);
        Due.is("31: get(3, 2, 5) is nought", x.get(3, 2, 5), 0);
        Due.is("31: sheet(3, 1, 60) anew", x.sheet(3, 1, 60), 60);
        Due.is("31: get(3, 1, 5)", x.get(3, 1, 5), 0);
    }

    private static void promise32() {
        SharedPockets x = new SharedPockets();
        Due.is("32: lose(-1)", x.lose(-1), -2);
        Due.is("32: lose(4)", x.lose(4), -2);
        Due.is("32: lose(1)", x.lose(1), NULL);
        Due.is("32: count(8)", x.count(8), 1);
        x.sheet(1, 1, 7);
        Due.is("32: lose(1), of seven", x.lose(1), 7);
        Due.is("32: lose(1) again", x.lose(1), NULL);
        Due.is("32: put(1, 1, 0, 1)", x.put(1, 1, 0, 1), NULL);
    }

    private static void promise33() {
        SharedPockets x = new SharedPockets();
        int[][] bad = {{-1, 0}, {4, 0}, {0, -1}, {0, 3}};
        for (int[] b : bad) {
            Due.is("33: a wrong put", x.put(b[0], b[1], 0, 1), -2);
        }
        Due.is("33: put(0, 0, 0, 1) lost", x.put(0, 0, 0, 1), NULL);
        x.sheet(0, 0, 0);
        Due.is("33: put(0, 0, 0, 1), no items", x.put(0, 0, 0, 1), INDEX);
        x.sheet(0, 0, 3);
        Due.is("33: put(0, 1, 9, 1), CAST ahead of INDEX", x.put(0, 1, 9, 1), CAST);
        Due.is("33: count(8)", x.count(8), 3);
        Due.is("33: put(0, 0, 3, 1)", x.put(0, 0, 3, 1), INDEX);
        Due.is("33: count(8)", x.count(8), 2);
        Due.is("33: put(0, 0, -1, 1)", x.put(0, 0, -1, 1), INDEX);
        Due.is("33: put(0, 0, 2, 511)", x.put(0, 0, 2, 511), 1);
        Due.is("33: get(0, 0, 2), eight bits", x.get(0, 0, 2), -1);
        x.put(0, 0, 0, 128);
        Due.is("33: get(0, 0, 0), eight bits", x.get(0, 0, 0), -128);
        x.put(0, 0, 1, -129);
        Due.is("33: get(0, 0, 1), eight bits", x.get(0, 0, 1), 127);
        x.sheet(1, 1, 1);
        x.put(1, 1, 0, 0x18000);
        Due.is("33: get(1, 1, 0), sixteen bits", x.get(1, 1, 0), -32768);
        x.put(1, 1, 0, 200);
        Due.is("33: get(1, 1, 0), sixteen bits", x.get(1, 1, 0), 200);
        x.sheet(2, 2, 1);
        x.put(2, 2, 0, LEAST + 1);
        Due.is("33: get(2, 2, 0), all bits", x.get(2, 2, 0), LEAST + 1);
        Due.is("33: put(2, 2, 0, greatest)", x.put(2, 2, 0, Integer.MAX_VALUE), 1);
        Due.is("33: get(2, 2, 0), all bits", x.get(2, 2, 0), Integer.MAX_VALUE);
    }

    private static void promise34() {
        SharedPockets x = new SharedPockets();
        int[][] bad = {{-1, 0}, {4, 0}, {0, -1}, {0, 3}};
        for (int[] b : bad) {
            Due.is("34: a wrong get", x.get(b[0], b[1], 0), LEAST);
        }
        Due.is("34: count(8) is not by BAD", x.count(8), 0);
        Due.is("34: get(0, 0, 0) lost", x.get(0, 0, 0), LEAST);
        Due.is("34: count(8), NULL", x.count(8), 1);
        x.sheet(0, 1, 2);
        Due.is("34: get(0, 0, 2), CAST ahead of INDEX", x.get(0, 0, 2), LEAST);
        Due.is("34: count(8), CAST", x.count(8), 3);
        Due.is("34: get(0, 1, 2)", x.get(0, 1, 2), LEAST);
        Due.is("34: count(8), INDEX", x.count(8), 2);
        Due.is("34: get(0, 1, -1)", x.get(0, 1, -1), LEAST);
        x.put(0, 1, 1, -5);
        Due.is("34: get(0, 1, 1)", x.get(0, 1, 1), -5);
        Due.is("34: get(0, 1, 0)", x.get(0, 1, 0), 0);
        Due.is("34: count(8) stays the latest", x.count(8), 2);
    }

    private static SharedPockets twoSheets() {
        SharedPockets x = new SharedPockets();
        x.sheet(0, 2, 5);
        x.sheet(1, 2, 3);
        for (int i = 0; i < 5; i++) {
            x.put(0, 2, i, 10 + i);
        }
        return x;
    }

    private static void items(SharedPockets x, String why, int s, int form, int... want) {
        for (int i = 0; i < want.length; i++) {
            Due.is("35: get(" + s + ", " + form + ", " + i + "), " + why, x.get(s, form, i), want[i]);
        }
    }

    private static void promise35() {
        SharedPockets x = twoSheets();
        Due.is("35: copy(0, 1, 1, 0, 3)", x.copy(0, 1, 1, 0, 3), 1);
        items(x, "copied", 1, 2, 11, 12, 13);
        Due.is("35: copy(0, 0, 0, 1, 4)", x.copy(0, 0, 0, 1, 4), 1);
        items(x, "up within itself", 0, 2, 10, 10, 11, 12, 13);
        Due.is("35: copy(0, 2, 0, 0, 3)", x.copy(0, 2, 0, 0, 3), 1);
        items(x, "down within itself", 0, 2, 11, 12, 13, 12, 13);
        Due.is("35: copy(0, 5, 1, 3, 0)", x.copy(0, 5, 1, 3, 0), 1);
        items(x, "nothing copied", 1, 2, 11, 12, 13);
        Due.is("35: count(8)", x.count(8), 0);
        x.sheet(2, 2, 0);
        Due.is("35: copy(2, 0, 2, 0, 0)", x.copy(2, 0, 2, 0, 0), 1);
        Due.is("35: copy(2, 0, 0, 0, 1)", x.copy(2, 0, 0, 0, 1), INDEX);
        Due.is("35: copy(0, 0, 2, 0, 1)", x.copy(0, 0, 2, 0, 1), INDEX);
    }

    private static void promise35Wrong() {
        SharedPockets x = twoSheets();
        int[][] bad = {{-1, 1}, {4, 1}, {0, -1}, {0, 4}, {2, 4}};
        for (int[] b : bad) {
            Due.is("35: a wrong copy", x.copy(b[0], 0, b[1], 0, 1), -2);
        }
        Due.is("35: copy from lost", x.copy(2, 0, 1, 0, 1), NULL);
        Due.is("35: copy to lost", x.copy(0, 0, 3, 0, 1), NULL);
        Due.is("35: count(8), NULL", x.count(8), 1);
        x.sheet(2, 1, 5);
        Due.is("35: copy(0, 9, 2, 0, 1), STORE ahead of INDEX", x.copy(0, 9, 2, 0, 1), STORE);
        Due.is("35: count(8), STORE", x.count(8), 4);
        int max = Integer.MAX_VALUE;
        int[][] index = {{-1, 0, 1}, {0, -1, 1}, {0, 0, -1}, {3, 0, 3}, {0, 1, 3}, {6, 0, 0}, {0, 4, 0}, {0, 0, max}, {max, 0, max},
            {0, max, max}, {max, max, 1}, {LEAST, 0, 1}, {0, LEAST, 1}, {0, 0, LEAST}, {-1, 0, 0}};
        for (int[] b : index) {
            Due.is("35: copy beside the items", x.copy(0, b[0], 1, b[1], b[2]), INDEX);
        }
        Due.is("35: count(8), INDEX", x.count(8), 2);
        items(x, "as it was", 1, 2, 0, 0, 0);
    }

    private static void promise36() {
        SharedPockets x = Due.with("50o;60o", "o0;o1");
        Due.hands(x, "1p01 2t11 3p00");
        Due.is("36: write(-1, 0)", x.write(-1, 0), -2);
        Due.is("36: write(2, 0)", x.write(2, 0), -2);
        Due.is("36: write(0, -1)", x.write(0, -1), -2);
        Due.is("36: write(0, 4)", x.write(0, 4), -2);
        Due.is("36: count(8)", x.count(8), 0);
        Due.is("36: write(0, 0) lost", x.write(0, 0), NULL);
        Due.is("36: count(8), NULL", x.count(8), 1);
        x.sheet(0, 2, 4);
        Due.is("36: write(0, 0)", x.write(0, 0), 4);
        items(x, "load", 0, 2, 0, 6, 0, 5);
        Due.is("36: write(1, 0)", x.write(1, 0), 4);
        items(x, "happy", 0, 2, 0b01, 0b01, 0b11, 0b10);
        x.sheet(1, 2, 0);
        Due.is("36: write(0, 1), no items", x.write(0, 1), 0);
        x.sheet(1, 2, 60);
        x.put(1, 2, 24, 99);
        Due.is("36: write(0, 1), sixty items", x.write(0, 1), 24);
        Due.is("36: get(1, 2, 23)", x.get(1, 2, 23), 5);
        Due.is("36: get(1, 2, 24) is as it was", x.get(1, 2, 24), 99);
    }

    private static void promise36Forms() {
        SharedPockets x = Due.with("17o", "o.;o.;o.;o.;o.;o.;o.;o0");
        x.sheet(0, 0, 1);
        x.write(1, 0);
        Due.is("36: get(0, 0, 0), the lowest bits of 128", x.get(0, 0, 0), -128);
        x.sheet(0, 1, 1);
        x.write(1, 0);
        Due.is("36: get(0, 1, 0)", x.get(0, 1, 0), 128);
    }

    private static void promise37() {
        SharedPockets x = Due.with("50o;30o", "o.;h.;o.");
        Due.is("37: count(1), the very first", x.count(1), 3);
        Due.hands(x, "0p00 0p10 1t10 5t01");
        Due.is("37: count(5)", x.count(5), 2);
        x.hole(3, 2);
        x.felt(1, 1, 0);
        x.felt(1, 1, 0);
        x.sheet(0, 0, -3);
        int[] want = {2, 3, 7, 8, 4, 2, 1, 2, 5};
        for (int what = 0; what < want.length; what++) {
            Due.is("37: count(" + what + ")", x.count(what), want[what]);
        }
        Due.is("37: count(9)", x.count(9), -2);
        Due.is("37: count(-1)", x.count(-1), -2);
        Due.is("37: count(8) is not by BAD", x.count(8), 5);
    }
}
