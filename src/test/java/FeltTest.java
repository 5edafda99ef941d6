/** Promises 24 to 30: what was FELT, frogs by chance, days by a seed. */
public final class FeltTest {
    private static final int ALL_HOURS = 0xFFFFFF;
    private static final long BAD = Long.MIN_VALUE + 2;

    public static void main(String[] args) {
        promise24And25();
        promise26();
        promise26EveryFelt();
        promise26WholeHours();
        promise26Soup();
        promise26And28Wrong();
        promise27();
        promise28();
        promise28Edges();
        promise29();
        promise29Wrong();
        promise30();
        promise30Hands();
        promise30WholeHours();
        promise30Wrong();
        Due.end();
    }

    private static void promise24And25() {
        SharedPockets x = new SharedPockets();
        int[][] bad = {{-1, 0, 0}, {24, 0, 0}, {0, -1, 0}, {0, 8, 0}, {0, 0, -1}, {0, 0, 2}};
        for (int[] b : bad) {
            Due.is("24: a wrong felt", x.felt(b[0], b[1], b[2]), -2);
        }
        Due.is("25: forget() of none", x.forget(), 0);
        Due.is("24: felt(23, 7, 1)", x.felt(23, 7, 1), 1);
        for (int n = 2; n <= 8; n++) {
            Due.is("24: felt(0, 0, 0)", x.felt(0, 0, 0), n);
        }
        Due.is("24: felt(0, 0, 0) full", x.felt(0, 0, 0), -4);
        Due.is("24: felt(0, 8, 0) full", x.felt(0, 8, 0), -2);
        Due.is("24: count(7)", x.count(7), 8);
        Due.is("25: forget()", x.forget(), 8);
        Due.is("25: count(7)", x.count(7), 0);
        Due.is("24: felt(0, 0, 0) anew", x.felt(0, 0, 0), 1);
    }

    private static void promise26() {
        SharedPockets x = Due.with("50o;30o", "o.;o.");
        Due.hands(x, "2p00");
        Due.is("26: when(1, 0), nothing felt", x.when(1, 0), ALL_HOURS);
        x.felt(4, 0, 1);
        Due.is("26: when(1, 0), still in at 4", x.when(1, 0), ALL_HOURS & ~0b11100);
        x.felt(7, 0, 0);
        Due.is("26: when(1, 0), gone by 7", x.when(1, 0), 0b11100000);
        Due.is("26: when(0, 1), another thing explains nothing", x.when(0, 1), 0);
        x.forget();
        x.felt(7, 0, 0);
        Due.is("26: when(1, 0), told behind all others of its hour", x.when(1, 0), 0b11111100);
        x.forget();
        x.felt(0, 0, 1);
        Due.is("26: when(1, 0), cannot be", x.when(1, 0), 0);
        Due.is("26: hands are as they were", x.count(4), 1);
        SharedPockets y = Due.with("50o", "o.;h.");
        Due.hands(y, "2p00");
        y.felt(7, 0, 0);
        Due.is("26: when(1, 0), who is honest puts back", y.when(1, 0), 0b10000000);
        Due.is("26: when(0, 0), its owner keeps it", y.when(0, 0), 0b11111100);
    }

    private static void promise26EveryFelt() {
        SharedPockets x = Due.with("50o;30o", "o.;o.");
        Due.hands(x, "2p00");
        x.felt(5, 7, 0);
        Due.is("26: when(1, 0), no such thing is not in", x.when(1, 0), ALL_HOURS);
        x.felt(5, 7, 1);
        Due.is("26: when(1, 0), no such thing cannot be in", x.when(1, 0), 0);
        x.forget();
        x.felt(3, 0, 1);
        x.felt(5, 0, 1);
        x.felt(5, 1, 0);
        x.felt(23, 0, 0);
        Due.is("26: when(1, 0), all of them", x.when(1, 0), ALL_HOURS & ~0b111111);
        for (int k = 0; k < 19; k++) {
            x.hand(9, 7, 7, 0);
        }
        Due.is("26: when(1, 0), with twenty hands", x.when(1, 0), ALL_HOURS & ~0b111111);
    }

    /** Behind the one HAND more the HOURS go on with HOLES, soup and the AUNT. */
    private static void promise26WholeHours() {
        SharedPockets x = Due.with("50s;30o", "o.;o.");
        Due.hands(x, "2p00 4p10 0p01");
        x.hole(6, 3);
        x.felt(4, 0, 1);
        // soup spills in hour 4, but for cousin 1 who takes it in hour 2 or 3 and puts it in as told
        Due.is("26: when(1, 0), soup", x.when(1, 0), 0b1100);
        Due.is("26: when(0, 0), soup", x.when(0, 0), 0);
        x.forget();
        x.felt(6, 1, 1);
        Due.is("26: when(1, 1), a hole", x.when(1, 1), 0);
        x.forget();
        x.felt(5, 1, 1);
        Due.is("26: when(1, 1), ahead of the hole", x.when(1, 1), ALL_HOURS & ~0b111111);
        SharedPockets y = Due.with("50o", "o.;o.");
        Due.hands(y, "2p00 6p00");
        y.aunt(1 << 4);
        y.felt(6, 0, 0);
        // in hours 2, 3 it is taken from her; in hour 4 too; in hour 6 when it is in again
        Due.is("26: when(1, 0), the aunt", y.when(1, 0), 0b1011100);
        SharedPockets again = Due.with("50o", "o.;o.");
        Due.hands(again, "0p00 4p10");
        again.hole(5, 9);
        again.felt(6, 0, 1);
        Due.is("26: when(1, 0), put in again ahead of a hole", again.when(1, 0), 0);
        SharedPockets z = Due.with("50o", "o.;o.");
        Due.hands(z, "0p00");
        z.felt(0, 0, 0);
        Due.is("26: when(1, 0), the first hour", z.when(1, 0), 1);
        z.forget();
        z.felt(0, 0, 1);
        Due.is("26: when(1, 0), any but the first hour", z.when(1, 0), ALL_HOURS & ~1);
        z.forget();
        z.felt(23, 0, 1);
        Due.is("26: when(1, 0), none", z.when(1, 0), 0);
    }

    /** Soup that was in THE POCKET ahead of the one HAND more is LOST as told, whatever else is taken. */
    private static void promise26Soup() {
        SharedPockets x = Due.with("50s;40o", "o.;o.", "0p00 0p01");
        x.felt(1, 0, 1);
        x.felt(2, 0, 0);
        Due.is("26: when(1, 1), the soup goes in hour 2", x.when(1, 1), ALL_HOURS);
        Due.is("26: when(1, 0), it is taken in hour 2, or spilled", x.when(1, 0), ALL_HOURS & ~0b11);
        x.forget();
        x.felt(2, 0, 1);
        Due.is("26: when(1, 1), it does not stay", x.when(1, 1), 0);
    }

    private static void promise28Edges() {
        SharedPockets x = Due.with("50o", "o.;o.");
        Due.hands(x, "0p00");
        x.felt(1, 0, 0);
        Due.is("28: when(1, 0)", x.when(1, 0), 0b11);
        Due.is("28: feel(1, 0), the first hour", x.feel(1, 0), 0);
        x.forget();
        x.felt(2, 0, 0);
        Due.is("28: feel(1, 0), one and two behind it, two and one behind the next", x.feel(1, 0), 0);
        x.felt(0, 0, 1);
        Due.is("28: when(1, 0)", x.when(1, 0), 0b110);
        Due.is("28: feel(1, 0), the second hour", x.feel(1, 0), 1);
        x.forget();
        x.felt(21, 0, 1);
        x.felt(23, 0, 0);
        Due.is("28: feel(1, 0), a late hour", x.feel(1, 0), 22);
        x.hand(3, 0, 0, 1);
        Due.is("28: feel(1, 0), none fits now", x.feel(1, 0), 0);
        x.back(0);
        Due.is("28: feel(1, 0), undone", x.feel(1, 0), 22);
    }

    private static void promise26And28Wrong() {
        SharedPockets x = Due.with("50o", "o.");
        int[][] bad = {{-1, 0}, {1, 0}, {0, -1}, {0, 1}};
        for (int[] b : bad) {
            Due.is("26: a wrong when", x.when(b[0], b[1]), -2);
            Due.is("28: a wrong feel", x.feel(b[0], b[1]), -2);
        }
    }

    private static void promise27() {
        SharedPockets x = Due.with("50o;30o", "o.;h.;o.");
        Due.hands(x, "2p00");
        Due.is("27: thief(0), nothing felt", x.thief(0), 0b111);
        x.felt(7, 0, 0);
        x.felt(6, 0, 0);
        Due.is("27: thief(0), not who is honest", x.thief(0), 0b101);
        Due.is("27: thief(1)", x.thief(1), 0);
        x.felt(8, 0, 1);
        Due.is("27: thief(0), nobody puts it back then", x.thief(0), 0);
        x.forget();
        x.felt(7, 0, 0);
        x.felt(8, 0, 1);
        Due.is("27: thief(0), only who is honest", x.thief(0), 0b010);
        Due.is("27: thief(2)", x.thief(2), -2);
        Due.is("27: thief(-1)", x.thief(-1), -2);
        Due.is("27: thief(0) of nobody", Due.with("50o", "").thief(0), 0);
    }

    private static void promise28() {
        SharedPockets x = Due.with("50o", "o.;o.");
        Due.hands(x, "2p00");
        x.felt(4, 0, 1);
        x.felt(12, 0, 0);
        // taken in one of the hours 5 .. 12: behind hour 8 four of these say out, four say in
        Due.is("28: when(1, 0)", x.when(1, 0), 0b1111111100000);
        Due.is("28: feel(1, 0)", x.feel(1, 0), 8);
        x.felt(11, 0, 0);
        // seven are left, 5 .. 11: three and four behind hour 7, four and three behind hour 8
        Due.is("28: feel(1, 0), the first of like ones", x.feel(1, 0), 7);
        x.felt(5, 0, 0);
        Due.is("28: feel(1, 0), one hour is left", x.feel(1, 0), 0);
        x.felt(5, 0, 1);
        Due.is("28: feel(1, 0), none is left", x.feel(1, 0), 0);
    }

    private static void promise29() {
        SharedPockets x = Due.with("50f;30o;40f;27f", "o.");
        Due.hands(x, "2p00 4t00 6p00 0p01");
        // in behind hours 2, 3, 6 on
        jumps(x, 8, 0, 1, 1, 1);
        jumps(x, 8, 0, 2, 1, 2);
        jumps(x, 8, 0, 5, 1, 4);
        jumps(x, 8, 0, 6, 1, 8);
        jumps(x, 6, 0, 3, 25, 64);
        jumps(x, 12, 0, 3, 1, 16);
        jumps(x, 16, 0, 1, 1, 1);
        jumps(x, 16, 0, 2, 0, 1);
        jumps(x, 0, 0, 12, 1, 1);
        jumps(x, 1, 0, 12, 15L * 15 * 15 * 15 * 15 * 15 * 15 * 15 * 15, 1L << 36);
        jumps(x, 8, 1, 12, 1, 1);
        jumps(x, 16, 2, 12, 1, 1);
        jumps(x, 16, 3, 12, 1, 1);
        SharedPockets y = Due.with("50f", "o.");
        Due.hands(y, "0p00");
        jumps(y, 1, 0, 12, 1946195068359375L, 1L << 52);
        jumps(y, 15, 0, 12, 1, 1L << 52);
        jumps(y, 4, 0, 0, 3, 4);
        y.aunt(0b100);
        jumps(y, 8, 0, 12, 1, 4);
    }

    private static void jumps(SharedPockets x, int c, int thing, int hour, long above, long below) {
        Due.is("29: jumps(" + c + ", " + thing + ", " + hour + ", 0)", x.jumps(c, thing, hour, 0), above);
        Due.is("29: jumps(" + c + ", " + thing + ", " + hour + ", 1)", x.jumps(c, thing, hour, 1), below);
    }

    private static void promise29Wrong() {
        SharedPockets x = Due.with("50f", "o.");
        int[][] bad = {{-1, 0, 0, 0}, {17, 0, 0, 0}, {0, -1, 0, 0}, {0, 1, 0, 0}, {0, 0, -1, 0}, {0, 0, 13, 0}, {0, 0, 0, -1}, {0, 0, 0, 2}};
        for (int[] b : bad) {
            Due.is("29: wrong jumps", x.jumps(b[0], b[1], b[2], b[3]), BAD);
        }
    }

    /** The LOTS are worked out here by longs, apart from the class. */
    private static void promise30() {
        SharedPockets x = Due.with("50o", "o.;o.");
        for (int seed = -40; seed < 40; seed++) {
            int[] lots = upperBits(seed, 3);
            boolean puts = lots[0] % 2 == 0 && lots[2] % 2 == 0;
            Due.is("30: day(" + seed + ", 0, 0)", x.day(seed, 0, 0), puts ? 8 : 0);
            Due.is("30: day(" + seed + ", 0, NONE)", x.day(seed, 0, -1), puts ? 1 : 0);
        }
        SharedPockets one = Due.with("50o", "o.");
        for (int seed = 0; seed < 20; seed++) {
            Due.is("30: one cousin, day(" + seed + ", 0, 0)", one.day(seed, 0, 0), upperBits(seed, 3)[2] % 2 == 0 ? 8 : 0);
        }
        Due.is("30: no cousins", Due.with("50o", "").day(3, 23, -1), 0);
        Due.is("30: no cousins", Due.with("50o", "").day(3, 23, 0), 9);
        Due.is("30: no things", Due.with("", "o.").day(3, 23, -1), 0);
    }

    /** The LOTS' HANDS are told behind the others of their HOUR, and only up to the told HOUR; others do not count. */
    private static void promise30Hands() {
        SharedPockets x = Due.with("50o;31o", "o.;h1;o.");
        Due.hands(x, "0p00 1t10 3p10 5p11 6t21 9p00");
        for (int seed = 1; seed < 60; seed++) {
            for (int hour = 0; hour < 24; hour += 5) {
                SharedPockets y = Due.with("50o;31o", "o.;h1;o.");
                Due.hands(y, "0p00 1t10 3p10 5p11 6t21 9p00");
                int[] lots = upperBits(seed, 3 * hour + 3);
                int works = y.count(5);
                for (int h = 0; h <= hour && h < 14; h++) {
                    y.hand(h, lots[3 * h] % 3, lots[3 * h + 1] % 2, lots[3 * h + 2] % 2);
                }
                if (hour < 14) {
                    int own = 0;
                    for (int k = 6; k <= 6 + hour; k++) {
                        own += y.works(k);
                    }
                    Due.is("30: day(" + seed + ", " + hour + ", 0)", x.day(seed, hour, 0), y.where(hour, 0));
                    Due.is("30: day(" + seed + ", " + hour + ", 1)", x.day(seed, hour, 1), y.where(hour, 1));
                    Due.is("30: day(" + seed + ", " + hour + ", NONE)", x.day(seed, hour, -1), own);
                }
                Due.is("30: count(5) is as it was", x.count(5), works);
            }
        }
    }

    /** A DAY has HOLES, soup and the AUNT as any other: its HANDS, told one by one, come to the same. */
    private static void promise30WholeHours() {
        for (int seed = 0; seed < 40; seed++) {
            SharedPockets x = soupHoleAndAunt();
            SharedPockets y = soupHoleAndAunt();
            int[] lots = upperBits(seed, 60);
            for (int h = 0; h < 20; h++) {
                y.hand(h, lots[3 * h] % 2, lots[3 * h + 1] % 3, lots[3 * h + 2] % 2);
                for (int t = 0; t < 3; t++) {
                    Due.is("30: day(" + seed + ", " + h + ", " + t + "), whole hours", x.day(seed, h, t), y.where(h, t));
                }
                Due.is("30: day(" + seed + ", " + h + ", NONE), whole hours", x.day(seed, h, -1), y.count(5));
            }
        }
    }

    private static SharedPockets soupHoleAndAunt() {
        SharedPockets x = Due.with("50s;20o;31s", "o.;o.");
        x.hole(9, 2);
        x.aunt(1 << 3 | 1 << 6);
        return x;
    }

    static int[] upperBits(int seed, int many) {
        int[] all = new int[many];
        long s = seed;
        for (int k = 0; k < many; k++) {
            s = (1103515245L * s + 12345L) & 0xFFFFFFFFL;
            all[k] = (int) (s / 65536);
        }
        return all;
    }

    private static void promise30Wrong() {
        SharedPockets x = Due.with("50o", "o.");
        int[][] bad = {{-1, 0}, {24, 0}, {0, 1}, {0, -2}};
        for (int[] b : bad) {
            Due.is("30: a wrong day", x.day(1, b[0], b[1]), -2);
        }
        Due.is("30: day of no thing", new SharedPockets().day(1, 1, 0), -2);
        Due.is("30: day(least int)", Due.with("57o", "o.").day(Integer.MIN_VALUE, 23, 0), 9);
    }
}
