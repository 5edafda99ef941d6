import java.io.IOException;

/** Sentences that name a boundary: promises 24 to 30, what was FELT, frogs and days. */
public final class EdgesOfFeltTest {
    private static final int NONE = -1, BAD = -2, FULL = -4;
    private static final long BAD_LONG = Long.MIN_VALUE + 2;
    private static final String NOBODY_HONEST = "o.;o.;o.;o.;o.;o.;o.;o.";
    private static final String WHEN = "HOURS in each of which, by one HAND more that TAKES it, told behind all others, all that was FELT comes out so, as bits.";
    private static final String FEEL = "the greater of both numbers (by which the THING is in THE POCKET, by which it is not) is least, of like ones the first.";
    private static final String LOTS = "as ints that wrap; its upper 16 bits as a number from 0 on, modulo m.";

    public static void main(String[] args) throws IOException {
        Edge.open(args);
        Edge.says(24, "FELT more: how many. BAD; FULL.", EdgesOfFeltTest::feltBounds);
        Edge.says(24, "FELT, 8 at most: behind an HOUR a THING (0 to 7) was in THE POCKET (1), or not (0).", EdgesOfFeltTest::eightFelt);
        Edge.says(24, "Refusals, the first that fits, in the order told at each act", EdgesOfFeltTest::feltBadAheadOfFull);
        Edge.says(25, "All FELT are forgotten: how many.", EdgesOfFeltTest::forgotten);
        Edge.says(26, "WHEN, as bits. BAD.", EdgesOfFeltTest::whenBounds);
        Edge.says(26, WHEN, EdgesOfFeltTest::whenNoneAndAll);
        Edge.says(26, "a THING (0 to 7) was in THE POCKET (1), or not (0)", EdgesOfFeltTest::whenNoSuchThing);
        Edge.says(27, "THIEF, as bits. BAD.", EdgesOfFeltTest::thiefBounds);
        Edge.says(27, "THIEF of a THING: COUSINS of whom there is such an HOUR, as bits.", EdgesOfFeltTest::thiefNobodyAndAll);
        Edge.says(28, "FEEL. BAD.", EdgesOfFeltTest::feelBounds);
        Edge.says(28, FEEL, EdgesOfFeltTest::feelFirstAndLast);
        Edge.says(29, "JUMPS: above, below. BAD. (As the least long.)", EdgesOfFeltTest::jumpsBounds);
        Edge.says(29, "behind each HOUR up to a told one (0 to 12) behind which a frog is in THE POCKET", EdgesOfFeltTest::jumpsHours);
        Edge.says(29, "it jumps out by c sixteenths (0 to 16)", EdgesOfFeltTest::jumpsSixteenths);
        Edge.says(29, "a FRACTION (of what is no frog: 1)", EdgesOfFeltTest::jumpsNoFrog);
        Edge.says(29, "FRACTIONS are told in lowest terms, above and below (0 by 1).", EdgesOfFeltTest::jumpsLowestTerms);
        Edge.says(29, "Where the answer is a long, a refusal -x is the least long and x more.", EdgesOfFeltTest::jumpsRefused);
        Edge.says(30, "DAY: where a THING is, how many work (thing = NONE). BAD.", EdgesOfFeltTest::dayBounds);
        Edge.says(30, "in each HOUR from 0 to a told one a LOT of COUSINS, a LOT of THINGS, a LOT of 2 (0 PUTS, 1 TAKES) tells one HAND more", EdgesOfFeltTest::dayHours);
        Edge.says(30, LOTS, EdgesOfFeltTest::dayLots);
        Edge.says(30, "(no LOTS where there are no COUSINS, or no THINGS)", EdgesOfFeltTest::dayNoLots);
        Edge.says(30, "tells one HAND more, told behind all others", EdgesOfFeltTest::dayWithTwentyHands);
        Edge.close(24, 30);
    }

    private static void feltBounds() {
        Edge.boundsAnywhere("felt(v, 0, 0)", 0, 23, (x, v) -> x.felt(v, 0, 0));
        Edge.boundsAnywhere("felt(0, v, 0)", 0, 7, (x, v) -> x.felt(0, v, 0));
        Edge.boundsAnywhere("felt(0, 0, v)", 0, 1, (x, v) -> x.felt(0, 0, v));
        Edge.refusedAnywhere("felt(24, 8, 2), all wrong", BAD, x -> x.felt(24, 8, 2));
    }

    private static void eightFelt() {
        SharedPockets x = Due.with("50o", "o.", "0p00");
        for (int n = 1; n <= 8; n++) {
            Due.is("felt(" + (n + 1) + ", 0, ..)", x.felt(n + 1, 0, n == 8 ? 0 : 1), n);
        }
        Due.is("felt(23, 7, 1), one more", x.felt(23, 7, 1), FULL);
        Due.is("felt(23, 7, 1), once more", x.felt(23, 7, 1), FULL);
        Due.is("count(7)", x.count(7), 8);
        Due.is("when(0, 0), the eighth counts, the ninth does not", x.when(0, 0), 1 << 9);
        Edge.refused("felt(0, 0, 0) of a full one", FULL, Edge::full, y -> y.felt(0, 0, 0));
        Edge.refused("felt(23, 7, 1) of a full one", FULL, Edge::full, y -> y.felt(23, 7, 1));
    }

    private static void feltBadAheadOfFull() {
        Edge.refused("felt(-1, 0, 0) of a full one", BAD, Edge::full, x -> x.felt(-1, 0, 0));
        Edge.refused("felt(24, 0, 0) of a full one", BAD, Edge::full, x -> x.felt(24, 0, 0));
        Edge.refused("felt(0, 8, 0) of a full one", BAD, Edge::full, x -> x.felt(0, 8, 0));
        Edge.refused("felt(0, 0, 2) of a full one", BAD, Edge::full, x -> x.felt(0, 0, 2));
    }

    private static void forgotten() {
        Due.is("forget() of none", new SharedPockets().forget(), 0);
        SharedPockets x = Edge.made(Edge::full);
        Due.is("forget() of eight", x.forget(), 8);
        Due.is("count(7)", x.count(7), 0);
        Due.is("when(0, 0), nothing holds", x.when(0, 0), Edge.ALL_HOURS);
        Due.is("forget() again", x.forget(), 0);
        Due.is("felt(0, 0, 0), there is room again", x.felt(0, 0, 0), 1);
        Due.is("forget() of one", x.forget(), 1);
    }

    private static void whenBounds() {
        Edge.bounds("when(v, 0) of three", 0, 2, Edge::busy, (x, v) -> x.when(v, 0));
        Edge.bounds("when(v, 7) of eight", 0, 7, Edge::full, (x, v) -> x.when(v, 7));
        Edge.bounds("when(0, v) of three", 0, 2, Edge::busy, (x, v) -> x.when(0, v));
        Edge.bounds("when(7, v) of eight", 0, 7, Edge::full, (x, v) -> x.when(7, v));
        Edge.refused("when(0, 0) of nothing", BAD, Edge::empty, x -> x.when(0, 0));
        Edge.refused("when(0, 0), no COUSINS", BAD, x -> Due.type(x, 0, "50o"), x -> x.when(0, 0));
        Edge.refused("when(0, 0), no THINGS", BAD, x -> Due.type(x, 1, "o."), x -> x.when(0, 0));
    }

    private static void whenNoneAndAll() {
        SharedPockets x = Due.with("50o", "o.;o.", "0p00");
        Due.is("when(1, 0), nothing FELT", x.when(1, 0), Edge.ALL_HOURS);
        x.felt(0, 0, 0);
        Due.is("when(1, 0), the first HOUR alone", x.when(1, 0), 1);
        x.forget();
        x.felt(22, 0, 1);
        Due.is("when(1, 0), the last HOUR alone, so far", x.when(1, 0), 1 << 23);
        x.felt(23, 0, 0);
        Due.is("when(1, 0), the last HOUR alone", x.when(1, 0), 1 << 23);
        x.forget();
        x.felt(23, 0, 0);
        Due.is("when(1, 0), any HOUR", x.when(1, 0), Edge.ALL_HOURS);
        x.felt(23, 0, 1);
        Due.is("when(1, 0), both cannot be", x.when(1, 0), 0);
        SharedPockets idle = Due.with("50o", "o.;o.");
        idle.felt(0, 0, 0);
        Due.is("when(1, 0), a HAND that does not work", idle.when(1, 0), Edge.ALL_HOURS);
        SharedPockets full = Due.with("50o", "o.;o.", "0p00");
        for (int k = 1; k < 20; k++) {
            full.hand(9, 7, 7, 0);
        }
        full.felt(9, 0, 0);
        full.felt(8, 0, 1);
        Due.is("when(1, 0), with twenty HANDS, behind all others", full.when(1, 0), 1 << 9);
        Due.is("count(4)", full.count(4), 20);
    }

    private static void whenNoSuchThing() {
        SharedPockets x = Due.with("50o", "o.", "0p00");
        for (int t = 1; t < 8; t++) {
            x.forget();
            x.felt(3, t, 0);
            Due.is("when(0, 0), no THING " + t + " was felt", x.when(0, 0), Edge.ALL_HOURS);
            x.felt(3, t, 1);
            Due.is("when(0, 0), THING " + t + " was felt", x.when(0, 0), 0);
        }
    }

    private static void thiefBounds() {
        Edge.bounds("thief(v) of three", 0, 2, Edge::busy, (x, v) -> x.thief(v));
        Edge.bounds("thief(v) of eight", 0, 7, Edge::full, (x, v) -> x.thief(v));
        Edge.refused("thief(0) of none", BAD, Edge::empty, x -> x.thief(0));
    }

    private static void thiefNobodyAndAll() {
        Due.is("thief(0), nobody there", Due.with("50o", "").thief(0), 0);
        SharedPockets x = Due.with("57o", NOBODY_HONEST, "0p70");
        Due.is("thief(0), nothing FELT: all", x.thief(0), 0xFF);
        x.felt(5, 0, 0);
        Due.is("thief(0), any of them", x.thief(0), 0xFF);
        x.felt(0, 0, 1);
        x.felt(5, 0, 1);
        Due.is("thief(0), none of them", x.thief(0), 0);
        SharedPockets last = Due.with("50o", "h.;h.;h.;h.;h.;h.;h.;o.", "0p00");
        last.felt(4, 0, 0);
        last.felt(5, 0, 0);
        Due.is("thief(0), its OWNER and the last, who is not honest", last.thief(0), 0x81);
    }

    private static void feelBounds() {
        Edge.bounds("feel(v, 0) of three", 0, 2, Edge::busy, (x, v) -> x.feel(v, 0));
        Edge.bounds("feel(v, 7) of eight", 0, 7, Edge::full, (x, v) -> x.feel(v, 7));
        Edge.bounds("feel(0, v) of three", 0, 2, Edge::busy, (x, v) -> x.feel(0, v));
        Edge.bounds("feel(7, v) of eight", 0, 7, Edge::full, (x, v) -> x.feel(7, v));
        Edge.refused("feel(0, 0) of nothing", BAD, Edge::empty, x -> x.feel(0, 0));
        Edge.refused("feel(0, 0), no COUSINS", BAD, x -> Due.type(x, 0, "50o"), x -> x.feel(0, 0));
        Edge.refused("feel(0, 0), no THINGS", BAD, x -> Due.type(x, 1, "o."), x -> x.feel(0, 0));
    }

    private static void feelFirstAndLast() {
        SharedPockets last = Due.with("50o", "o.;o.", "23p00");
        Due.is("feel(1, 0), only behind the last HOUR they are not alike", last.feel(1, 0), 23);
        SharedPockets never = Due.with("50o", "o.;o.");
        Due.is("feel(1, 0), all HOURS are alike", never.feel(1, 0), 0);
        SharedPockets x = Due.with("50o", "o.;o.", "0p00");
        Due.is("feel(1, 0), twelve and twelve", x.feel(1, 0), 11);
        x.felt(1, 0, 0);
        Due.is("feel(1, 0), one and one behind the first HOUR", x.feel(1, 0), 0);
        x.felt(0, 0, 0);
        Due.is("feel(1, 0), one HOUR is left", x.feel(1, 0), 0);
        x.felt(0, 0, 1);
        Due.is("feel(1, 0), none is left", x.feel(1, 0), 0);
        x.forget();
        x.felt(20, 0, 1);
        Due.is("feel(1, 0), 21, 22, 23: one and two, two and one", x.feel(1, 0), 21);
        x.felt(21, 0, 1);
        Due.is("feel(1, 0), 22, 23: one and one", x.feel(1, 0), 22);
        SharedPockets all = Due.with("10o;11o;12o;13o;14o;15o;16o;17o", NOBODY_HONEST, "0p00 2p11 4p22 6p33 8p44 10p55 12p66 14p77");
        for (int t = 0; t < 8; t++) {
            // in from HOUR 2 t on: twelve HOURS later half of all have taken it out, or the last HOUR is the nearest to half
            Due.is("feel(7, " + t + ") of eight", all.feel(7, t), Math.min(2 * t + 11, 23));
            Due.is("feel(" + t + ", " + t + ") of eight", all.feel(t, t), Math.min(2 * t + 11, 23));
        }
    }

    private static void jumpsBounds() {
        Edge.boundsBy(BAD_LONG, "jumps(v, 2, 0, 0)", 0, 16, Edge::busy, (x, v) -> x.jumps(v, 2, 0, 0));
        Edge.boundsBy(BAD_LONG, "jumps(5, v, 0, 1) of three", 0, 2, Edge::busy, (x, v) -> x.jumps(5, v, 0, 1));
        Edge.boundsBy(BAD_LONG, "jumps(5, v, 12, 0) of eight", 0, 7, Edge::full, (x, v) -> x.jumps(5, v, 12, 0));
        Edge.boundsBy(BAD_LONG, "jumps(5, 2, v, 0)", 0, 12, Edge::busy, (x, v) -> x.jumps(5, 2, v, 0));
        Edge.boundsBy(BAD_LONG, "jumps(5, 2, 0, v)", 0, 1, Edge::busy, (x, v) -> x.jumps(5, 2, 0, v));
        Edge.boundsBy(BAD_LONG, "jumps(5, 0, v, 0), no frog", 0, 12, Edge::busy, (x, v) -> x.jumps(5, 0, v, 0));
    }

    private static void jumps(String why, SharedPockets x, int c, int hour, long above, long below) {
        Due.is("jumps(" + c + ", 0, " + hour + ", 0), " + why, x.jumps(c, 0, hour, 0), above);
        Due.is("jumps(" + c + ", 0, " + hour + ", 1), " + why, x.jumps(c, 0, hour, 1), below);
    }

    private static void jumpsHours() {
        SharedPockets in = Due.with("50f", "o.", "0p00");
        long above = 1;
        long below = 1;
        for (int hour = 0; hour <= 12; hour++) {
            above *= 15;
            below *= 16;
            jumps("in from the first HOUR on", in, 1, hour, above, below);
        }
        SharedPockets late = Due.with("50f", "o.", "12p00");
        jumps("not in yet", late, 1, 11, 1, 1);
        jumps("in behind the last HOUR", late, 1, 12, 15, 16);
        SharedPockets later = Due.with("50f", "o.", "13p00");
        jumps("in too late", later, 16, 12, 1, 1);
        SharedPockets out = Due.with("50f", "o.", "0p00 1t00");
        jumps("in behind the first HOUR alone", out, 1, 12, 15, 16);
        SharedPockets within = Due.with("50f", "o.", "5p00 5t00");
        jumps("in and out within an HOUR", within, 16, 12, 1, 1);
        jumps("LOST", Due.with("57f", "o."), 16, 12, 1, 1);
        SharedPockets all = Due.with("10f;10f;10f;10f;10f;10f;10f;10f", "o.", "0p00 1p01 2p02 3p03 4p04 5p05 6p06 7p07");
        for (int t = 0; t < 8; t++) {
            Due.is("jumps(8, " + t + ", 12, 0) of eight", all.jumps(8, t, 12, 0), 1);
            Due.is("jumps(8, " + t + ", 12, 1) of eight", all.jumps(8, t, 12, 1), 1 << 13 - t);
        }
    }

    private static void jumpsSixteenths() {
        SharedPockets in = Due.with("50f", "o.", "11p00");
        jumps("by none", in, 0, 12, 1, 1);
        jumps("by one", in, 1, 12, 225, 256);
        jumps("by fifteen", in, 15, 12, 1, 256);
        jumps("by sixteen", in, 16, 12, 0, 1);
        jumps("by sixteen, never in", in, 16, 10, 1, 1);
        SharedPockets all = Due.with("50f", "o.", "0p00");
        jumps("the greatest numbers", all, 1, 12, 1946195068359375L, 4503599627370496L);
        jumps("the least chance but none", all, 15, 12, 1, 4503599627370496L);
    }

    private static void jumpsNoFrog() {
        for (String kind : new String[] {"o", "s"}) {
            SharedPockets x = Due.with("50" + kind, "o.", "0p00");
            for (int c = 0; c <= 16; c += 8) {
                jumps("kind " + kind, x, c, 0, 1, 1);
                jumps("kind " + kind, x, c, 12, 1, 1);
            }
        }
    }

    private static void jumpsLowestTerms() {
        SharedPockets once = Due.with("50f", "o.", "12p00");
        int[][] lowest = {{1, 1}, {15, 16}, {7, 8}, {13, 16}, {3, 4}, {11, 16}, {5, 8}, {9, 16}, {1, 2}, {7, 16}, {3, 8}, {5, 16}, {1, 4}, {3, 16}, {1, 8}, {1, 16}, {0, 1}};
        for (int c = 0; c <= 16; c++) {
            jumps("once", once, c, 12, lowest[c][0], lowest[c][1]);
        }
        SharedPockets all = Due.with("50f", "o.", "0p00");
        for (int c = 0; c <= 16; c++) {
            long above = 1;
            long below = 1;
            for (int k = 0; k < 13; k++) {
                above *= lowest[c][0];
                below *= lowest[c][1];
            }
            jumps("thirteen times", all, c, 12, above, below);
        }
    }

    private static void jumpsRefused() {
        Edge.refused("jumps(5, 0, 9, 0) of nothing", -9223372036854775806L, Edge::empty, x -> x.jumps(5, 0, 9, 0));
        Edge.refused("jumps(17, 3, 13, 2), all wrong", -9223372036854775806L, Edge::busy, x -> x.jumps(17, 3, 13, 2));
    }

    private static void dayBounds() {
        Edge.bounds("day(1, v, 0)", 0, 23, Edge::busy, (x, v) -> x.day(1, v, 0));
        Edge.boundsAnywhere("day(1, v, NONE)", 0, 23, (x, v) -> x.day(1, v, NONE));
        Edge.bounds("day(1, 0, v) of three", -1, 2, Edge::busy, (x, v) -> x.day(1, 0, v));
        Edge.bounds("day(1, 23, v) of eight", -1, 7, Edge::full, (x, v) -> x.day(1, 23, v));
        Edge.bounds("day(1, 0, v) of none", -1, -1, Edge::empty, (x, v) -> x.day(1, 0, v));
        for (int seed : new int[] {0, -1, Edge.LEAST, Edge.MOST}) {
            Due.is("day(" + seed + ", 0, NONE), any SEED, is BAD", Edge.made(Edge::busy).day(seed, 0, NONE) == BAD ? 1 : 0, 0);
        }
    }

    /** One COUSIN and one THING: it goes in and out by the third LOT of each HOUR. */
    private static void dayHours() {
        SharedPockets x = Due.with("50o", "o.");
        for (int seed : new int[] {0, 1, -1, 7, Edge.LEAST, Edge.MOST, 123456789}) {
            int[] lots = FeltTest.upperBits(seed, 72);
            int place = 0;
            int works = 0;
            for (int hour = 0; hour < 24; hour++) {
                int next = lots[3 * hour + 2] % 2 == 0 ? 8 : 0;
                works += next == place ? 0 : 1;
                place = next;
                Due.is("day(" + seed + ", " + hour + ", 0)", x.day(seed, hour, 0), place);
                Due.is("day(" + seed + ", " + hour + ", NONE)", x.day(seed, hour, NONE), works);
            }
        }
    }

    /** Of all COUSINS only COUSIN 0 has THINGS: whose HAND it is, is seen by whether it works. */
    private static void dayLots() {
        int high = 0;
        for (int seed : new int[] {0, 1, 2, 3, -1, -2, -3, Edge.LEAST, Edge.LEAST + 1, Edge.MOST, Edge.MOST - 1, 1 << 16, 0xFFFF}) {
            for (int many = 1; many <= 8; many++) {
                SharedPockets x = Due.with("10o;10o;10o".substring(0, many % 2 == 0 ? 3 : 11), NOBODY_HONEST.substring(0, 3 * many - 1));
                int[] lots = FeltTest.upperBits(seed, 3);
                high += lots[0] > 0x7FFF ? 1 : 0;
                int thing = lots[1] % x.count(0);
                boolean puts = lots[0] % many == 0 && lots[2] % 2 == 0;
                Due.is("day(" + seed + ", 0, " + thing + ") of " + many, x.day(seed, 0, thing), puts ? 8 : 0);
                Due.is("day(" + seed + ", 0, NONE) of " + many, x.day(seed, 0, NONE), puts ? 1 : 0);
            }
        }
        Due.is("some of these upper 16 bits have the highest", high > 0 ? 1 : 0, 1);
    }

    private static void dayNoLots() {
        for (int hour = 0; hour < 24; hour += 23) {
            Due.is("day(1, " + hour + ", NONE) of nothing", new SharedPockets().day(1, hour, NONE), 0);
            Due.is("day(1, " + hour + ", NONE), no COUSINS", Due.with("50o", "").day(1, hour, NONE), 0);
            Due.is("day(1, " + hour + ", 0), no COUSINS", Due.with("50o", "").day(1, hour, 0), 9);
            Due.is("day(1, " + hour + ", NONE), no THINGS", Due.with("", "o.").day(1, hour, NONE), 0);
        }
        Edge.refused("day(1, 0, 0), no THINGS", BAD, x -> Due.type(x, 1, "o."), x -> x.day(1, 0, 0));
    }

    private static void dayWithTwentyHands() {
        for (int seed = 0; seed < 12; seed++) {
            SharedPockets x = Due.with("50o", "o.", "5p00");
            for (int k = 1; k < 20; k++) {
                x.hand(5, 0, 0, k % 2);
            }
            // as told it ends HOUR 5 with COUSIN 0, so only a LOT that PUTS works there
            int puts = FeltTest.upperBits(seed, 18)[17] % 2 == 0 ? 8 : 0;
            Due.is("day(" + seed + ", 5, 0), with twenty HANDS", x.day(seed, 5, 0), puts);
            Due.is("day(" + seed + ", 5, NONE) less day(" + seed + ", 4, NONE)", x.day(seed, 5, NONE) - x.day(seed, 4, NONE), puts / 8);
            Due.is("count(4)", x.count(4), 20);
        }
    }
}
