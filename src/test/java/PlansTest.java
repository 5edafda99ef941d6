/** Promises 21 to 23: LEND, HANGS, SORT. */
public final class PlansTest {
    public static void main(String[] args) {
        promise21Fewest();
        promise21LeastRow();
        promise21Hours();
        promise21Room();
        promise21Full();
        promise21WholeHours();
        promise21Anew();
        promise21Soup();
        promise21OneBehindAnother();
        promise21AskedFirst();
        promise21Wrong();
        promise22();
        promise22Five();
        promise22WholeHour();
        promise22EveryOrder();
        promise22Soup();
        promise23();
        promise23Told();
        promise23Edges();
        promise23Wrong();
        Due.end();
    }

    /** LEND whole: how many, the first, the second. */
    private static void lend(SharedPockets x, String args, int many, int one, int two) {
        String[] a = args.split(" ");
        int cousin = Integer.parseInt(a[0]);
        int thing = Integer.parseInt(a[1]);
        int hour = Integer.parseInt(a[2]);
        int behind = Integer.parseInt(a[3]);
        Due.is("21: lend(" + args + ", NONE)", x.lend(cousin, thing, hour, behind, -1), many);
        Due.is("21: lend(" + args + ", 0)", x.lend(cousin, thing, hour, behind, 0), one);
        Due.is("21: lend(" + args + ", 1)", x.lend(cousin, thing, hour, behind, 1), two);
    }

    private static void promise21Fewest() {
        SharedPockets x = Due.with("50o;30o", "o.;o.;o.");
        lend(x, "0 0 3 3", 0, -1, -1);
        lend(x, "1 0 3 3", 2, 0, 64 + 8);
        lend(x, "2 1 3 9", 2, 1, 64 + 16 + 1);
        Due.hands(x, "2p00");
        lend(x, "0 0 1 1", 0, -1, -1);
        lend(x, "0 0 3 3", 1, 64, -1);
        lend(x, "1 0 3 3", 1, 64 + 8, -1);
        lend(x, "1 0 2 2", 1, 64 + 8, -1);
        lend(x, "1 0 1 1", 2, 0, 64 + 8);
        Due.hands(x, "5t10");
        lend(x, "1 0 3 5", 0, -1, -1);
        x.back(0);
        x.hole(2, 9);
        lend(x, "1 0 3 3", -1, -1, -1);
        lend(x, "1 0 2 9", 1, 64 + 8, -1);
    }

    /** Of plans that are like, the one whose numbers are least: PUTS ahead of TAKES, then by COUSIN, then by THING. */
    private static void promise21LeastRow() {
        SharedPockets x = Due.with("90o;91o", "o.;o.;o.");
        x.room(9);
        Due.hands(x, "1p11 5p00 6t20");
        lend(x, "2 0 3 6", 1, 64 + 1, -1);
        SharedPockets y = Due.with("90o;91o;92o", "o.;o.;o.");
        y.room(9);
        Due.hands(y, "1p11 5p00 6t20");
        lend(y, "2 0 3 6", 1, 64 + 1, -1);
        SharedPockets z = Due.with("50o;51o", "o.;o.;o.");
        z.room(9);
        Due.hands(z, "1p11 5p00 6t20");
        lend(z, "2 0 3 4", -1, -1, -1);
        lend(z, "2 0 3 6", 1, 64 + 1, -1);
        lend(z, "1 0 3 6", -1, -1, -1);
        lend(z, "1 0 5 6", -1, -1, -1);
        lend(z, "2 0 6 6", -1, -1, -1);
    }

    private static void promise21Hours() {
        SharedPockets x = Due.with("50o", "o.;h.");
        lend(x, "1 0 3 3", 2, 0, 64 + 8);
        lend(x, "1 0 3 4", -1, -1, -1);
        lend(x, "1 0 4 3", -1, -1, -1);
        lend(x, "0 0 4 3", 0, -1, -1);
        lend(x, "1 0 23 23", 2, 0, 64 + 8);
        lend(x, "1 0 0 0", 2, 0, 64 + 8);
        Due.hands(x, "7t10");
        lend(x, "1 0 5 7", 1, 0, -1);
        SharedPockets y = Due.with("55o;30o", "o.;o.");
        lend(y, "1 0 3 3", -1, -1, -1);
        lend(y, "1 1 3 3", 2, 1, 64 + 8 + 1);
    }

    /** Another THING may have to come out first. */
    private static void promise21Room() {
        SharedPockets x = Due.with("90o;91o", "o.;o.");
        x.room(10);
        Due.hands(x, "1p11");
        lend(x, "1 0 0 0", 2, 0, 64 + 8);
        lend(x, "1 0 2 2", -1, -1, -1);
        Due.hands(x, "3t10");
        lend(x, "1 0 2 3", 2, 64 + 1, 0);
        lend(x, "1 0 2 2", -1, -1, -1);
        // a first hand that works and leads nowhere, cousin 0 with thing 2, leaves the next ones as they are
        SharedPockets y = Due.with("90o;51o;40o", "o.;o.");
        y.room(9);
        Due.hands(y, "1p11 3t10");
        lend(y, "1 0 2 3", 2, 64 + 1, 0);
    }

    /** Between its HANDS and the HOUR asked for there are HOLES, soup, the AUNT and those who are honest. */
    private static void promise21WholeHours() {
        SharedPockets x = Due.with("50s", "o.;o.");
        Due.hands(x, "5t10");
        lend(x, "1 0 4 5", 1, 0, -1);
        lend(x, "1 0 3 5", 1, 0, -1);
        lend(x, "1 0 2 5", 2, 0, 64 + 8);
        x.hole(3, 9);
        lend(x, "1 0 4 5", 1, 0, -1);
        lend(x, "1 0 3 5", 2, 0, 64 + 8);
        x.back(1);
        x.hole(4, 9);
        lend(x, "1 0 3 5", 2, 0, 64 + 8);
        x.back(1);
        x.aunt(1 << 3);
        lend(x, "1 0 3 5", 2, 0, 64 + 8);
        lend(x, "1 0 4 5", 1, 0, -1);
        SharedPockets y = Due.with("50o;60o", "o.;h.;o.");
        y.room(6);
        Due.hands(y, "0p00 1t10 2p01");
        // cousin 1 took thing 0 in hour 1 and puts it back in hour 2, but for thing 1 in its place
        lend(y, "1 0 1 2", 1, 1, -1);
    }

    /** What was told between two like questions counts. */
    private static void promise21Anew() {
        SharedPockets x = Due.with("50o", "o.;o.");
        Due.is("21: lend(1, 0, 3, 3, NONE)", x.lend(1, 0, 3, 3, -1), 2);
        x.hand(2, 0, 0, 0);
        Due.is("21: lend(1, 0, 3, 3, NONE), it is in now", x.lend(1, 0, 3, 3, -1), 1);
        x.hole(2, 5);
        Due.is("21: lend(1, 0, 3, 3, NONE), it is lost now", x.lend(1, 0, 3, 3, -1), -1);
        Due.is("23: sort(0, NONE)", x.sort(0, -1), 0);
        x.back(1);
        Due.is("23: sort(0, NONE), no hole now", x.sort(0, -1), 1);
        SharedPockets y = Due.with("50o;60o", "o.");
        Due.is("21: lend(0, 0, 0, 0, NONE), the very first", y.lend(0, 0, 0, 0, -1), 0);
        Due.hands(y, "0p00 1p01");
        y.room(11);
        Due.is("23: sort(0, NONE), the very first", y.sort(0, -1), 2);
        y.wipe(0);
        Due.type(y, 0, "60o");
        Due.is("21: lend(0, 0, 0, 0, NONE), another text", y.lend(0, 0, 0, 0, -1), 1);
        Due.is("23: sort(0, NONE), another text", y.sort(0, -1), 1);
    }

    /** Soup that was in THE POCKET ahead of the HANDS more was so for them too. */
    private static void promise21Soup() {
        SharedPockets x = Due.with("50s;10o;90o", "o.;o.", "0p00 3t10");
        x.room(6);
        // were it not in the pocket from hour 0 on, cousin 1 would have it as told, whatever other HAND came in
        lend(x, "1 0 1 3", 1, 64 + 8, -1);
        lend(x, "1 0 2 3", 1, 64 + 8, -1);
        lend(x, "1 0 3 3", -1, -1, -1);
    }

    /** An answer does not hang on what was asked ahead of it. */
    private static void promise21OneBehindAnother() {
        int[] hours = {0, 1, 22, 23};
        int[] things = {0, 1, 7};
        int[][] asked = new int[96][];
        long[] alone = new long[asked.length];
        for (int k = 0; k < asked.length; k++) {
            asked[k] = new int[] {k / 48, things[k / 16 % 3], hours[k / 4 % 4], hours[k % 4]};
            alone[k] = lendOf(wholeDay(), asked[k]);
        }
        for (int k = 0; k < asked.length; k++) {
            for (int other = 0; other < asked.length; other++) {
                SharedPockets x = wholeDay();
                lendOf(x, asked[other]);
                Due.is("21: lend " + k + " behind lend " + other, lendOf(x, asked[k]), alone[k]);
            }
        }
    }

    /** Each question as the very first one: who has no THING yet gets it by two HANDS, if it is not too late. */
    private static void promise21AskedFirst() {
        for (int k = 0; k < 9 * 24 * 24; k++) {
            int[] a = {k / 1728, k / 576 % 3, k / 24 % 24, k % 24};
            long got = lendOf(Due.with("10o;11o;12o", "o.;o.;o."), a);
            long needed = a[3] < a[2] ? 0 : 3_000_000 + (9 * a[1] + 1) * 1000 + 64 + 8 * a[0] + a[1] + 1;
            Due.is("21: lend(" + a[0] + ", " + a[1] + ", " + a[2] + ", " + a[3] + ", ..), asked first", got, a[0] == a[1] ? 1_000_000 : needed);
        }
    }

    private static SharedPockets wholeDay() {
        return Due.with("50o;61o;10o;10o;10o;10o;10o;40o", "o.;o.", "1p00 2p11 3t10 4p07 5t17 21p10 22t01 23p17");
    }

    /** All three answers as one number. */
    private static long lendOf(SharedPockets x, int[] a) {
        long row = 0;
        for (int i = -1; i < 2; i++) {
            row = 1000 * row + 1 + x.lend(a[0], a[1], a[2], a[3], i);
        }
        return row;
    }

    /** Twenty HANDS that are told leave LEND as it is. */
    private static void promise21Full() {
        SharedPockets x = Due.with("50o", "o.;o.");
        for (int k = 0; k < 20; k++) {
            x.hand(9, 7, 7, 1);
        }
        Due.is("21: hand, full", x.hand(9, 0, 0, 0), -4);
        lend(x, "1 0 3 3", 2, 0, 64 + 8);
        lend(x, "1 0 9 9", 2, 0, 64 + 8);
        Due.is("21: count(4)", x.count(4), 20);
    }

    private static void promise21Wrong() {
        SharedPockets x = Due.with("50o", "o.;o.");
        int[][] bad = {{-1, 0, 0, 0, 0}, {2, 0, 0, 0, 0}, {0, -1, 0, 0, 0}, {0, 1, 0, 0, 0}, {0, 0, -1, 0, 0}, {0, 0, 24, 0, 0},
            {0, 0, 0, -1, 0}, {0, 0, 0, 24, 0}, {0, 0, 0, 0, -2}, {0, 0, 0, 0, 2}};
        for (int[] b : bad) {
            Due.is("21: a wrong lend", x.lend(b[0], b[1], b[2], b[3], b[4]), -2);
        }
        Due.is("21: lend of nothing", new SharedPockets().lend(0, 0, 0, 0, -1), -2);
    }

    private static void promise22() {
        SharedPockets x = Due.with("50o;40o;61o", "o.;o.;o.");
        Due.is("22: hangs(0) of no hands", x.hangs(0), 0);
        Due.hands(x, "0p00 1t10");
        Due.is("22: hangs(1) of one hand", x.hangs(1), 0);
        Due.hands(x, "1t20");
        Due.is("22: hangs(1), who is first has it", x.hangs(1), 0b001);
        Due.hands(x, "2p01 2p12");
        Due.is("22: hangs(2), both have room", x.hangs(2), 0);
        x.room(9);
        Due.is("22: hangs(2), one has room", x.hangs(2), 0b110);
        x.room(20);
        Due.hands(x, "3t01 3p01");
        Due.is("22: hangs(3), in or out", x.hangs(3), 0b010);
        Due.is("22: hangs(-1)", x.hangs(-1), -2);
        Due.is("22: hangs(24)", x.hangs(24), -2);
        Due.is("22: hangs(23)", x.hangs(23), 0);
        Due.is("22: hangs(0) of nothing", new SharedPockets().hangs(0), 0);
    }

    /** The sixth HAND is not among those that change places, the fifth is. */
    private static void promise22Five() {
        SharedPockets x = Due.with("50o", "o.;o.;o.");
        Due.hands(x, "0p00 1t77 1t77 1t77 1t10 1t77 1t20");
        Due.is("22: hangs(1), the second taker is the sixth", x.hangs(1), 0);
        SharedPockets y = Due.with("50o", "o.;o.;o.");
        Due.hands(y, "0p00 1t77 1t77 1t77 1t10 1t20 1t77");
        Due.is("22: hangs(1), the second taker is the fifth", y.hangs(1), 1);
        SharedPockets z = Due.with("50o", "o.;o.;o.");
        Due.hands(z, "0p00 1t77 1t10 1p10 1t77 1t77 1t20");
        Due.is("22: hangs(1), the others come behind the five", z.hangs(1), 1);
    }

    /** Behind the HOUR: with those who are honest ahead of its HANDS, and HOLES and the AUNT behind them. */
    private static void promise22WholeHour() {
        SharedPockets x = Due.with("50o;40o", "o.;o.;o.");
        Due.hands(x, "0p00 1t00 1p00");
        Due.is("22: hangs(1)", x.hangs(1), 1);
        x.aunt(0b10);
        Due.is("22: hangs(1), the aunt brings it home", x.hangs(1), 0);
        x.aunt(0);
        x.hole(1, 9);
        Due.is("22: hangs(1), home or lost", x.hangs(1), 1);
        SharedPockets y = Due.with("50o", "o.;h.;o.");
        Due.hands(y, "0p00 1t10 2t00 2t20");
        Due.is("22: hangs(2), put back ahead of both", y.hangs(2), 1);
        SharedPockets one = Due.with("50o", "o.;h.;o.");
        Due.hands(one, "0p00 1t10 2t20");
        Due.is("22: hangs(2), one hand alone", one.hangs(2), 0);
        SharedPockets z = Due.with("50s", "o.");
        Due.hands(z, "0p00 2t00 2p00");
        Due.is("22: hangs(2), soup", z.hangs(2), 1);
    }

    /** The told order and its mirror are alike, one between them is not. */
    private static void promise22EveryOrder() {
        SharedPockets x = Due.with("50o", "o.;o.;o.");
        Due.hands(x, "0p00 1t10 1t20 1t10");
        Due.is("22: hangs(1), the middle one first", x.hangs(1), 1);
        SharedPockets y = Due.with("50o;67o", "o.;o.;o.");
        Due.hands(y, "0p00 0p71 0t71");
        Due.is("22: hangs(0), what is lost stays so", y.hangs(0), 0);
    }

    /** Soup that was in THE POCKET in both HOURS ahead is LOST by each order by which it stays there. */
    private static void promise22Soup() {
        SharedPockets x = Due.with("50s;40o", "o.;o.;o.", "0p00 2p01 2t01");
        Due.is("22: hangs(2), the soup is LOST by both", x.hangs(2), 0b10);
        SharedPockets y = Due.with("50s;40o", "o.;o.;o.", "0p01 0p00 2t11 2t21");
        Due.is("22: hangs(2), the soup is LOST by both", y.hangs(2), 0b10);
    }

    private static void sort(SharedPockets x, int bound, int many, int one, int two) {
        Due.is("23: sort(" + bound + ", NONE)", x.sort(bound, -1), many);
        Due.is("23: sort(" + bound + ", 0)", x.sort(bound, 0), one);
        Due.is("23: sort(" + bound + ", 1)", x.sort(bound, 1), two);
    }

    private static void promise23() {
        SharedPockets x = Due.with("50o;40o;30o;20o", "o.");
        sort(x, 0, 0, -1, -1);
        Due.hands(x, "2p00");
        sort(x, 5, 0, -1, -1);
        sort(x, 4, 1, 2, -1);
        Due.hands(x, "4p01");
        sort(x, 9, 0, -1, -1);
        sort(x, 5, 1, 2, -1);
        sort(x, 4, 1, 2, -1);
        sort(x, 3, 2, 2, 4);
        Due.hands(x, "6p02");
        sort(x, 9, 1, 2, -1);
        sort(x, 5, 1, 4, -1);
        sort(x, 4, 2, 2, 4);
        sort(x, 2, -1, -1, -1);
        sort(x, 72, 0, -1, -1);
        Due.hands(x, "23p03");
        sort(x, 13, 1, 2, -1);
        sort(x, 9, 1, 2, -1);
        sort(x, 8, 1, 4, -1);
        sort(x, 0, -1, -1, -1);
    }

    /** In place of the HOURS that are told, which stay as they are. */
    private static void promise23Told() {
        SharedPockets x = Due.with("50o;40o", "o.");
        x.aunt(1 << 2);
        Due.hands(x, "2p00 23p01");
        Due.is("23: load(2), as told", x.load(2), 0);
        sort(x, 4, 1, 2, -1);
        sort(x, 0, 2, 2, 23);
        Due.is("23: aunt(0), as told still", x.aunt(0), 1 << 2);
    }

    private static void promise23Edges() {
        SharedPockets x = Due.with("50o;40o;30o", "o.");
        Due.hands(x, "0p00");
        sort(x, 5, 0, -1, -1);
        sort(x, 4, 1, 0, -1);
        Due.hands(x, "1p01");
        sort(x, 0, 2, 0, 1);
        sort(x, 4, 1, 0, -1);
        sort(x, 8, 1, 0, -1);
        Due.hands(x, "2p02");
        sort(x, 4, 2, 0, 1);
        sort(x, 0, -1, -1, -1);
        SharedPockets y = Due.with("50o;40o", "o.");
        Due.hands(y, "22p00 23p01");
        sort(y, 3, 2, 22, 23);
        sort(y, 5, 1, 22, -1);
        // sent home it is put in once more: the AUNT can make it worse
        SharedPockets z = Due.with("90o", "o.;o.");
        Due.hands(z, "1p00 2t10 4p00");
        sort(z, 8, 2, 1, 4);
        sort(z, 9, 0, -1, -1);
    }

    private static void promise23Wrong() {
        SharedPockets x = Due.with("50o", "o.");
        Due.is("23: sort(-1, 0)", x.sort(-1, 0), -2);
        Due.is("23: sort(73, 0)", x.sort(73, 0), -2);
        Due.is("23: sort(0, -2)", x.sort(0, -2), -2);
        Due.is("23: sort(0, 2)", x.sort(0, 2), -2);
    }
}
