/** Promise 38: the digest, folded here from the answers of the other calls. */
public final class DigestTest {
    private long h;

    public static void main(String[] args) {
        alike("nothing", new SharedPockets());
        alike("things alone", Due.with("50f;31s", ""));
        alike("cousins alone", Due.with("", "h.;o1"));
        alike("one of each", Due.with("52f", "h0"));
        SharedPockets one = Due.with("50f", "h0");
        Due.hands(one, "0p00 2t00");
        alike("one of each, with hands", one);
        alike("a fault", Due.with("50f;31", "h.;o1"));
        SharedPockets x = Due.with("50f;31s;92o;17f;40f", "h1;o0;h.;o7");
        alike("a family", x);
        Due.hands(x, "0p00 0p11 1t10 1t20 1p22 3p22 5t12 5p12 8t01 12p10 12t00 12t00 23p00");
        alike("hands", x);
        x.hole(5, 4);
        x.aunt(1 << 7 | 1 << 20);
        alike("a hole and the aunt", x);
        x.felt(4, 2, 1);
        x.felt(9, 0, 0);
        x.lose(0);
        alike("felt", x);
        x.room(9);
        alike("less room", x);
        x.back(0);
        x.forget();
        alike("undone", x);
        everyHourAnother();
        SharedPockets asked = Due.with("52f", "h0");
        asked.count(0);
        Due.is("38: digest() as the first question", Due.with("52f", "h0").digest(), asked.digest());
        Due.is("38: digest() of nothing", new SharedPockets().digest(), ofNothing());
        Due.end();
    }

    private static void alike(String why, SharedPockets x) {
        DigestTest test = new DigestTest();
        int finding = x.count(8);
        Due.is("38: digest() of " + why, x.digest(), test.folded(x));
        Due.is("38: count(8) of " + why, x.count(8), finding);
        Due.is("38: digest() again of " + why, x.digest(), test.folded(x));
    }

    /** What is folded of an HOUR, a bound or a SEED is another for the numbers beside it. */
    private static void everyHourAnother() {
        SharedPockets x = Due.with("50f;51f;10o", "o0;o.;o2", "0p11 0p00 1t00 2p00 3t00 4p00 5t00 6p00 7t00 8p00 9t00 10p00 11t00 12p00 13t00 14p00 13t02");
        x.felt(6, 0, 1);
        another("where(4, 0), where(5, 0)", x.where(4, 0), x.where(5, 0));
        another("where(5, 0), where(6, 0)", x.where(5, 0), x.where(6, 0));
        another("has(8, 0), has(9, 0)", x.has(8, 0), x.has(9, 0));
        another("has(9, 0), has(10, 0)", x.has(9, 0), x.has(10, 0));
        another("lend(0, 0, 3, 4), lend(0, 0, 3, 5)", x.lend(0, 0, 3, 4, -1), x.lend(0, 0, 3, 5, -1));
        another("jumps(5, 1, 8, 1), jumps(5, 1, 9, 1)", x.jumps(5, 1, 8, 1), x.jumps(5, 1, 9, 1));
        another("jumps(5, 1, 9, 1), jumps(5, 1, 10, 1)", x.jumps(5, 1, 9, 1), x.jumps(5, 1, 10, 1));
        another("sort(9), sort(10)", x.sort(9, -1), x.sort(10, -1));
        another("when(0, 0), all hours", x.when(0, 0), 0xFFFFFF);
        another("day(7, 12, 0), day(7, 13, 0)", x.day(7, 12, 0), x.day(7, 13, 0));
        another("day(7, 12, NONE), day(7, 13, NONE)", x.day(7, 12, -1), x.day(7, 13, -1));
        alike("every hour another", x);
    }

    private static void another(String calls, long one, long two) {
        Due.is("38: like answers to " + calls, one == two ? 1 : 0, 0);
    }

    /** 8 noughts, NONE twice, 15 noughts, NONE, 0, NONE, 0: worked out from the document alone. */
    private static long ofNothing() {
        long[] values = {0, 0, 0, 0, 0, 0, 0, 0, -1, -1, 0, 0, 0, 0, 0, 0, 0, 0, 0, 0, 0, 0, 0, 0, 0, -1, 0, -1, 0};
        long all = 17;
        for (long v : values) {
            all = 31 * all + v;
        }
        return all;
    }

    private void fold(long... values) {
        for (long v : values) {
            h = 31 * h + v;
        }
    }

    private long folded(SharedPockets x) {
        h = 17;
        for (int what = 0; what < 8; what++) {
            fold(x.count(what));
        }
        fold(x.fault(0), x.fault(1));
        for (int t = 0; t < x.count(0); t++) {
            fold(x.thing(t, 0), x.thing(t, 1), x.thing(t, 2), x.where(5, t), x.where(23, t), x.went(t));
            fold(x.lend(0, t, 3, 4, -1), x.lend(0, t, 3, 4, 0), x.thief(t), x.feel(0, t));
            fold(x.jumps(5, t, 9, 0), x.jumps(5, t, 9, 1), x.day(7, 12, t));
        }
        for (int c = 0; c < x.count(1); c++) {
            fold(x.cousin(c, 0), x.cousin(c, 1), x.has(9, c), x.when(c, 0));
        }
        for (int hour : new int[] {0, 1, 5, 12, 23}) {
            fold(x.load(hour), x.happy(hour), x.hangs(hour));
        }
        for (int k = 0; k < x.count(4); k++) {
            fold(x.works(k));
        }
        fold(x.fails(), x.sort(9, -1), x.sort(9, 0), x.day(7, 12, -1));
        return h;
    }
}
