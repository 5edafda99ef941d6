import java.io.IOException;

/** Sentences that name a boundary: promises 21 to 23, LEND, HANGS and SORT. */
public final class EdgesOfPlansTest {
    private static final int NONE = -1, BAD = -2, TAKES = 64;
    private static final String HANGS = "THINGS that behind it are not in the same place by all orders of its HANDS";
    private static final String SORT = "the fewest HOURS (0 to 2) of the AUNT's";
    private static final String ALL_IN = "0p00 0p01 0p02 0p03 0p04 0p05 0p06 0p07";

    public static void main(String[] args) throws IOException {
        Edge.open(args);
        Edge.says(21, "how many (i = NONE), the i-th (0, 1; NONE); NONE. BAD.", EdgesOfPlansTest::lendBounds);
        Edge.says(21, "LEND: the fewest HANDS more (0 to 2; whatever room there is for them)", EdgesOfPlansTest::lendNoneToThree);
        Edge.says(21, "whatever room there is for them", EdgesOfPlansTest::lendWithTwentyHands);
        Edge.says(21, "by COUSINS and of THINGS that there are", EdgesOfPlansTest::lendWhoIsThere);
        Edge.says(21, "in a told HOUR, told behind all others, by which a COUSIN has a THING behind another told HOUR", EdgesOfPlansTest::lendHours);
        Edge.says(21, "of like ones the least row (as they are told) of numbers: 64 if it TAKES, and 8 times the COUSIN, and the THING", EdgesOfPlansTest::lendNumbers);
        Edge.says(22, "HANGS, as bits. BAD.", EdgesOfPlansTest::hangsBounds);
        Edge.says(22, HANGS, EdgesOfPlansTest::hangsNothingAndAll);
        Edge.says(22, "(of the first five of these; others as told behind these)", EdgesOfPlansTest::hangsFive);
        Edge.says(23, "how many (i = NONE), the i-th HOUR (0, 1; NONE); NONE. BAD.", EdgesOfPlansTest::sortBounds);
        Edge.says(23, "LOAD is no more than a told bound (0 to 72) behind each HOUR", EdgesOfPlansTest::sortBound);
        Edge.says(23, SORT, EdgesOfPlansTest::sortNoneToThree);
        Edge.says(23, "in place of those told", EdgesOfPlansTest::sortInPlaceOfTold);
        Edge.says(23, "of like ones the least row: how many; the i-th; NONE.", EdgesOfPlansTest::sortLeastRow);
        Edge.close(21, 23);
    }

    private static void lendBounds() {
        Edge.bounds("lend(v, 0, 0, 0, NONE) of three", 0, 2, Edge::busy, (x, v) -> x.lend(v, 0, 0, 0, NONE));
        Edge.bounds("lend(v, 7, 23, 23, 1) of eight", 0, 7, Edge::full, (x, v) -> x.lend(v, 7, 23, 23, 1));
        Edge.bounds("lend(0, v, 0, 0, NONE) of three", 0, 2, Edge::busy, (x, v) -> x.lend(0, v, 0, 0, NONE));
        Edge.bounds("lend(7, v, 23, 23, 1) of eight", 0, 7, Edge::full, (x, v) -> x.lend(7, v, 23, 23, 1));
        Edge.bounds("lend(1, 0, v, 0, 0)", 0, 23, Edge::busy, (x, v) -> x.lend(1, 0, v, 0, 0));
        Edge.bounds("lend(1, 0, 0, v, 0)", 0, 23, Edge::busy, (x, v) -> x.lend(1, 0, 0, v, 0));
        Edge.bounds("lend(1, 0, 0, 0, v)", -1, 1, Edge::busy, (x, v) -> x.lend(1, 0, 0, 0, v));
        Edge.refused("lend(0, 0, 0, 0, NONE) of nothing", BAD, Edge::empty, x -> x.lend(0, 0, 0, 0, NONE));
        Edge.refused("lend(0, 0, 0, 0, NONE), no COUSINS", BAD, x -> Due.type(x, 0, "50o"), x -> x.lend(0, 0, 0, 0, NONE));
        Edge.refused("lend(0, 0, 0, 0, NONE), no THINGS", BAD, x -> Due.type(x, 1, "o."), x -> x.lend(0, 0, 0, 0, NONE));
        Edge.refused("lend(8, 8, 24, 24, 2), all wrong", BAD, Edge::full, x -> x.lend(8, 8, 24, 24, 2));
    }

    /** LEND whole: how many, the first, the second. */
    private static void lend(String why, SharedPockets x, int[] asked, int many, int one, int two) {
        int[] want = {many, one, two};
        for (int i = -1; i < 2; i++) {
            String call = "lend(" + asked[0] + ", " + asked[1] + ", " + asked[2] + ", " + asked[3] + ", " + i + "), " + why;
            Due.is(call, x.lend(asked[0], asked[1], asked[2], asked[3], i), want[i + 1]);
        }
    }

    private static int[] of(int cousin, int thing, int hour, int behind) {
        return new int[] {cousin, thing, hour, behind};
    }

    private static void lendNoneToThree() {
        SharedPockets x = Due.with("90o;90o", "o.;o.", "0p01");
        lend("it has it", x, of(0, 0, 3, 3), 0, NONE, NONE);
        lend("one", x, of(1, 1, 3, 3), 1, TAKES + 8 + 1, NONE);
        lend("two", x, of(1, 0, 3, 3), 2, 0, TAKES + 8);
        x.room(17);
        lend("three: another out, it in, it out", x, of(1, 0, 3, 3), NONE, NONE, NONE);
        x.room(18);
        lend("two, just room", x, of(1, 0, 3, 3), 2, 0, TAKES + 8);
        x.hole(2, 9);
        lend("it is LOST", x, of(1, 1, 3, 3), NONE, NONE, NONE);
        lend("it can be had ahead of the HOLE", x, of(1, 1, 2, 3), 1, TAKES + 8 + 1, NONE);
    }

    private static void lendWithTwentyHands() {
        for (int many = 17; many <= 20; many++) {
            SharedPockets x = Due.with("50o", "o.;o.");
            for (int k = 0; k < many; k++) {
                x.hand(3, 7, 7, 0);
            }
            lend("with " + many + " HANDS", x, of(1, 0, 3, 3), 2, 0, TAKES + 8);
            lend("with " + many + " HANDS", x, of(1, 0, 23, 23), 2, 0, TAKES + 8);
            Due.is("count(4)", x.count(4), many);
            Due.is("hand(23, 0, 0, 0), how many", x.hand(23, 0, 0, 0), many < 20 ? many + 1 : -4);
        }
    }

    /** COUSIN 1 would have to TAKE what is too much, but there is nobody but COUSIN 0. */
    private static void lendWhoIsThere() {
        lend("its OWNER is not there", Due.with("51o", "o."), of(0, 0, 0, 0), NONE, NONE, NONE);
        lend("its OWNER is there", Due.with("51o", "o.;o."), of(0, 0, 0, 0), 2, 8, TAKES);
        SharedPockets x = Due.with("90o;90o", "o.;o.", "0p00 2p01 3t11");
        x.room(9);
        lend("the first THING out by the first COUSIN", x, of(1, 1, 1, 3), 1, TAKES, NONE);
        SharedPockets last = Due.with("17o;17o;17o;17o;17o;17o;17o;17o", "o.;o.;o.;o.;o.;o.;o.;o.");
        lend("the last of both has it", last, of(7, 7, 23, 23), 0, NONE, NONE);
        lend("the last PUTS, the first TAKES", last, of(0, 7, 23, 23), 2, 63, TAKES + 7);
    }

    private static void lendHours() {
        SharedPockets x = Due.with("50o", "o.;o.", "5p00");
        lend("behind its own HOUR, the first", x, of(1, 0, 0, 0), 2, 0, TAKES + 8);
        lend("behind its own HOUR, the last", x, of(1, 0, 23, 23), 1, TAKES + 8, NONE);
        lend("behind all others of its HOUR", x, of(1, 0, 5, 5), 1, TAKES + 8, NONE);
        lend("ahead of that HOUR", x, of(1, 0, 4, 4), 2, 0, TAKES + 8);
        lend("from the first to the last", x, of(1, 0, 0, 23), 2, 0, TAKES + 8);
        lend("too late by one HOUR", x, of(1, 0, 5, 4), NONE, NONE, NONE);
        lend("too late by all HOURS", x, of(1, 0, 23, 0), NONE, NONE, NONE);
        lend("late, but it has it", x, of(0, 0, 23, 4), 0, NONE, NONE);
        SharedPockets honest = Due.with("50o", "o.;h.", "5p00");
        lend("behind its own HOUR", honest, of(1, 0, 5, 5), 1, TAKES + 8, NONE);
        lend("who is honest has it no longer", honest, of(1, 0, 5, 6), NONE, NONE, NONE);
    }

    private static void lendNumbers() {
        SharedPockets eight = Due.with("10o;10o;10o;10o;10o;10o;10o;17o", "o.;o.;o.;o.;o.;o.;o.;o.", "5t07 6p00");
        lend("the greatest number that PUTS", eight, of(0, 7, 3, 5), 1, 56 + 7, NONE);
        SharedPockets in = Due.with("10o;10o;10o;10o;10o;10o;10o;17o", "o.;o.;o.;o.;o.;o.;o.;o.", "1p77");
        lend("the greatest number that TAKES", in, of(7, 7, 3, 3), 1, TAKES + 56 + 7, NONE);
        lend("the least number that TAKES it", in, of(0, 7, 3, 3), 1, TAKES + 7, NONE);
        SharedPockets like = Due.with("50o;90o;90o", "o.;o.;o.", "0p01 0p02 5p00 6t20");
        lend("any COUSIN, one THING or another out", like, of(2, 0, 4, 6), 1, TAKES + 1, NONE);
        SharedPockets two = Due.with("50o;90o;90o", "o.;o.;o.", "0p01 0p02 6t20");
        lend("the same, then in", two, of(2, 0, 4, 6), 2, TAKES + 1, 0);
    }

    private static void hangsBounds() {
        Edge.boundsAnywhere("hangs(v)", 0, 23, (x, v) -> x.hangs(v));
    }

    private static void hangsNothingAndAll() {
        for (int hour = 0; hour < 24; hour += 23) {
            SharedPockets x = Due.with("50o", "o.", hour + "p00");
            Due.is("hangs(" + hour + "), one HAND", x.hangs(hour), 0);
            x.hand(hour, 0, 0, 1);
            Due.is("hangs(" + hour + "), two HANDS", x.hangs(hour), 1);
            Due.is("hangs(" + (23 - hour) + "), none", x.hangs(23 - hour), 0);
            x.back(0);
            x.hand(hour, 0, 0, 0);
            Due.is("hangs(" + hour + "), two that are alike", x.hangs(hour), 0);
        }
        Due.is("hangs(0) of nothing", new SharedPockets().hangs(0), 0);
        Due.is("hangs(0), no such THING", Due.with("50o", "o.", "0p01 0t01").hangs(0), 0);
        SharedPockets last = Due.with("90o;90o;90o;90o;90o;90o;90o;90o", "o.", "4p06 4p07");
        last.room(9);
        Due.is("hangs(4), the last two", last.hangs(4), 0xC0);
        for (int one = 0; one < 8; one++) {
            for (int two = 0; two < 8; two++) {
                SharedPockets x = Due.with("10o;13o", "o.;o.;o.;o.;o.;o.;o.;o.", "0p31 1t" + one + "1 1t" + two + "1");
                Due.is("hangs(1), COUSINS " + one + " and " + two, x.hangs(1), one == two ? 0 : 2);
            }
        }
    }

    /** The THING goes to who TAKES it first: COUSIN 1 as told, COUSIN 2 if its HAND is one of the first five. */
    private static void hangsFive() {
        for (int others = 0; others <= 8; others++) {
            SharedPockets x = Due.with("50o", "o.;o.;o.", "0p00 1t10");
            for (int k = 0; k < others; k++) {
                x.hand(1, 7, 7, 0);
            }
            x.hand(1, 2, 0, 1);
            Due.is("hangs(1), it is number " + (others + 2), x.hangs(1), others + 2 <= 5 ? 1 : 0);
            x.hand(2, 7, 7, 0);
            Due.is("hangs(1), one in another HOUR", x.hangs(1), others + 2 <= 5 ? 1 : 0);
        }
        SharedPockets all = Due.with("50o", "o.;o.;o.", "0p00 1t10 1t20");
        for (int k = 3; k < 20; k++) {
            all.hand(1, 7, 7, 0);
        }
        Due.is("hangs(1) of nineteen", all.hangs(1), 1);
        SharedPockets settled = Due.with("50o", "o.;o.;o.", "0p00 1t10 1p10 1t77 1t77 1t77 1p10 1t20");
        Due.is("hangs(1), what hangs is settled by those behind the five", settled.hangs(1), 0);
    }

    private static void sort(String why, SharedPockets x, int bound, int many, int one, int two) {
        Due.is("sort(" + bound + ", NONE), " + why, x.sort(bound, NONE), many);
        Due.is("sort(" + bound + ", 0), " + why, x.sort(bound, 0), one);
        Due.is("sort(" + bound + ", 1), " + why, x.sort(bound, 1), two);
    }

    private static void sortBounds() {
        Edge.boundsAnywhere("sort(v, NONE)", 0, 72, (x, v) -> x.sort(v, NONE));
        Edge.boundsAnywhere("sort(0, v)", -1, 1, (x, v) -> x.sort(0, v));
        Edge.boundsAnywhere("sort(72, v)", -1, 1, (x, v) -> x.sort(72, v));
        Edge.refusedAnywhere("sort(73, 2), both wrong", BAD, x -> x.sort(73, 2));
        sort("nothing there", new SharedPockets(), 0, 0, NONE, NONE);
    }

    private static void sortBound() {
        SharedPockets x = Due.with("90o;90o;90o;90o;90o;90o;90o;90o", "o.", ALL_IN);
        x.room(72);
        sort("all in, the greatest bound", x, 72, 0, NONE, NONE);
        sort("all in, one less", x, 71, 1, 0, NONE);
        sort("all in, the least bound", x, 0, 1, 0, NONE);
        SharedPockets first = Due.with("50o", "o.", "0p00");
        sort("just so much behind the first HOUR", first, 5, 0, NONE, NONE);
        sort("one more behind the first HOUR", first, 4, 1, 0, NONE);
        SharedPockets last = Due.with("50o", "o.", "23p00");
        sort("just so much behind the last HOUR", last, 5, 0, NONE, NONE);
        sort("one more behind the last HOUR", last, 4, 1, 23, NONE);
    }

    private static void sortNoneToThree() {
        SharedPockets x = Due.with("50o;50o;50o", "o.");
        sort("none needed", x, 0, 0, NONE, NONE);
        x.hand(0, 0, 0, 0);
        sort("one needed", x, 0, 1, 0, NONE);
        x.hand(10, 0, 1, 0);
        sort("two needed", x, 0, 2, 0, 10);
        x.hand(23, 0, 2, 0);
        sort("three needed", x, 0, NONE, NONE, NONE);
        sort("three needed", x, 4, NONE, NONE, NONE);
        sort("one needed of three", x, 10, 1, 0, NONE);
        sort("one needed, between the others", x, 5, 1, 10, NONE);
        x.back(0);
        sort("two needed again", x, 4, 2, 0, 10);
    }

    private static void sortInPlaceOfTold() {
        SharedPockets x = Due.with("50o", "o.", "5p00");
        x.aunt(Edge.ALL_HOURS);
        Due.is("load(5), as told", x.load(5), 0);
        sort("hers do not count", x, 0, 1, 5, NONE);
        sort("hers do not count", x, 5, 0, NONE, NONE);
        Due.is("aunt(0), hers are as told", x.aunt(0), Edge.ALL_HOURS);
        sort("she has none", x, 0, 1, 5, NONE);
    }

    private static void sortLeastRow() {
        SharedPockets x = Due.with("50o;50o;50o;50o", "o.", "3p00 9p01 15p02 21p03");
        sort("any HOUR from 3 to 21", x, 15, 1, 3, NONE);
        sort("any HOUR from 9 to 15", x, 10, 1, 9, NONE);
        // one in the pocket at a time: 3 and then none ahead of 15, or 4 to 9 and then later ones
        sort("3 and 15 ahead of 9 and 21", x, 5, 2, 3, 15);
        sort("each its own HOUR, of four", x, 4, NONE, NONE, NONE);
        SharedPockets two = Due.with("50o;50o", "o.", "0p00 23p01");
        sort("any of all HOURS", two, 5, 1, 0, NONE);
        sort("the first and the last", two, 4, 2, 0, 23);
    }
}
