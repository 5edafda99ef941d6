import java.io.IOException;

/** Sentences that name a boundary: promises 8 to 13, what is told. */
public final class EdgesOfTellingTest {
    private static final int BAD = -2, NOT = -3, FULL = -4;
    private static final String EIGHT_OF_NINE = "90o;90o;90o;90o;90o;90o;90o;90o";
    private static final String ALL_IN = "0p00 0p01 0p02 0p03 0p04 0p05 0p06 0p07";
    private static final String READ = "four for each (HOUR, COUSIN, THING, what), as many as are whole, as long as each may be: how many.";

    public static void main(String[] args) throws IOException {
        Edge.open(args);
        Edge.says(8, "ROOM: what it was. BAD.", EdgesOfTellingTest::roomAsked);
        Edge.says(8, "THE POCKET takes THINGS of ROOM (1 to 72; 20 at first) together.", EdgesOfTellingTest::roomTogether);
        Edge.says(9, "The AUNT's HOURS (24 bits): what they were. BAD.", EdgesOfTellingTest::auntHours);
        Edge.says(10, "A HAND more (what = 0: PUTS, 1: TAKES): how many. BAD; FULL.", EdgesOfTellingTest::handBounds);
        Edge.says(10, "HOURS are 0 to 23.", EdgesOfTellingTest::handHours);
        Edge.says(10, "in an HOUR a COUSIN (0 to 7) PUTS in a THING (0 to 7), or TAKES it", EdgesOfTellingTest::handOfWhom);
        Edge.says(10, "HANDS, 20 at most (0 on)", EdgesOfTellingTest::twentyHands);
        Edge.says(10, "BAD -2 (a number not as told, no such thing), NULL, NOT -3 (as told), FULL -4, other FINDINGS.", EdgesOfTellingTest::handBadAheadOfFull);
        Edge.says(11, "A HOLE more (SIZE 1 to 9): how many. BAD; FULL.", EdgesOfTellingTest::holeBounds);
        Edge.says(11, "HOLES (HOUR and SIZE as told, 6 at most)", EdgesOfTellingTest::sixHoles);
        Edge.says(11, "all in THE POCKET that is of that SIZE, or less, is LOST", EdgesOfTellingTest::holeSizes);
        Edge.says(11, "Refusals, the first that fits, in the order told at each act", EdgesOfTellingTest::holeBadAheadOfFull);
        Edge.says(12, "The last HAND (what = 0), HOLE (1) is undone: how many are left.", EdgesOfTellingTest::backFromFull);
        Edge.says(12, "BAD; NOT: there is none.", EdgesOfTellingTest::backFromNone);
        Edge.says(13, READ, EdgesOfTellingTest::readWholeOnes);
        Edge.says(13, "as long as each may be", EdgesOfTellingTest::readAsLongAsEachMayBe);
        Edge.says(13, "HANDS, 20 at most (0 on)", EdgesOfTellingTest::readUntilFull);
        Edge.says(13, "BAD; NULL.", EdgesOfTellingTest::readRefused);
        Edge.close(8, 13);
    }

    private static void roomAsked() {
        Edge.boundsAnywhere("room(v)", 1, 72, (x, v) -> x.room(v));
        SharedPockets x = new SharedPockets();
        Due.is("room(1)", x.room(1), 20);
        Due.is("room(0)", x.room(0), BAD);
        Due.is("room(72)", x.room(72), 1);
        Due.is("room(73)", x.room(73), BAD);
        Due.is("room(72), the same", x.room(72), 72);
        Due.is("room(20)", x.room(20), 72);
    }

    private static void roomTogether() {
        SharedPockets all = Due.with(EIGHT_OF_NINE, "o.", ALL_IN);
        all.room(72);
        Due.is("load(0), all of them", all.load(0), 72);
        all.room(71);
        Due.is("load(0), one less", all.load(0), 63);
        Due.is("works(7), one less", all.works(7), 0);
        all.room(63);
        Due.is("load(0), seven of them", all.load(0), 63);
        all.room(9);
        Due.is("load(0), one of them", all.load(0), 9);
        all.room(8);
        Due.is("load(0), none of them", all.load(0), 0);
        SharedPockets small = Due.with("10o;10o;20o", "o.", "0p02 1p00 2p01");
        small.room(1);
        Due.is("works(0), of SIZE 2", small.works(0), 0);
        Due.is("works(1), of SIZE 1", small.works(1), 1);
        Due.is("works(2), another of SIZE 1", small.works(2), 0);
    }

    private static void auntHours() {
        Edge.boundsAnywhere("aunt(v)", 0, Edge.ALL_HOURS, (x, v) -> x.aunt(v));
        SharedPockets x = Due.with("50o", "o.", "0p00 1p00 22p00 23p00");
        Due.is("aunt(1)", x.aunt(1), 0);
        Due.is("where(0, 0), the first bit", x.where(0, 0), 0);
        Due.is("where(1, 0), no bit", x.where(1, 0), 8);
        Due.is("aunt(1 << 23)", x.aunt(1 << 23), 1);
        Due.is("where(22, 0), no bit", x.where(22, 0), 8);
        Due.is("where(23, 0), the last bit", x.where(23, 0), 0);
        Due.is("aunt(1 << 24)", x.aunt(1 << 24), BAD);
        Due.is("aunt(all)", x.aunt(Edge.ALL_HOURS), 1 << 23);
        for (int h = 0; h < 24; h++) {
            Due.is("where(" + h + ", 0), all bits", x.where(h, 0), 0);
        }
        Due.is("aunt(0)", x.aunt(0), Edge.ALL_HOURS);
        Due.is("where(23, 0), no bits", x.where(23, 0), 8);
    }

    private static void handBounds() {
        Edge.boundsAnywhere("hand(0, 0, 0, v)", 0, 1, (x, v) -> x.hand(0, 0, 0, v));
        SharedPockets x = Due.with("50o", "o.");
        Due.is("hand(0, 0, 0, 0)", x.hand(0, 0, 0, 0), 1);
        Due.is("where(0, 0), PUTS", x.where(0, 0), 8);
        Due.is("hand(0, 0, 0, 1)", x.hand(0, 0, 0, 1), 2);
        Due.is("where(0, 0), TAKES", x.where(0, 0), 0);
    }

    private static void handHours() {
        Edge.boundsAnywhere("hand(v, 0, 0, 0)", 0, 23, (x, v) -> x.hand(v, 0, 0, 0));
        SharedPockets first = Due.with("50o", "o.", "0p00");
        Due.is("where(0, 0)", first.where(0, 0), 8);
        SharedPockets last = Due.with("50o", "o.", "23p00");
        Due.is("where(22, 0)", last.where(22, 0), 0);
        Due.is("where(23, 0)", last.where(23, 0), 8);
    }

    private static void handOfWhom() {
        Edge.boundsAnywhere("hand(0, v, 0, 0)", 0, 7, (x, v) -> x.hand(0, v, 0, 0));
        Edge.boundsAnywhere("hand(0, 0, v, 1)", 0, 7, (x, v) -> x.hand(0, 0, v, 1));
        Due.is("hand(0, 7, 7, 0) though there is neither", new SharedPockets().hand(0, 7, 7, 0), 1);
        SharedPockets x = Due.with(Edge.EIGHT_THINGS, Edge.EIGHT_COUSINS, "0p77 1t77");
        Due.is("where(0, 7)", x.where(0, 7), 8);
        Due.is("where(1, 7)", x.where(1, 7), 7);
    }

    private static void twentyHands() {
        SharedPockets x = Due.with("50o", "o.");
        for (int n = 1; n <= 20; n++) {
            Due.is("hand(" + n + ", 0, 0, ..)", x.hand(n, 0, 0, n % 2 == 1 ? 0 : 1), n);
        }
        Due.is("hand(21, 0, 0, 0), one more", x.hand(21, 0, 0, 0), FULL);
        Due.is("hand(21, 0, 0, 0), once more", x.hand(21, 0, 0, 0), FULL);
        Due.is("count(4)", x.count(4), 20);
        Due.is("count(5), all of them work", x.count(5), 20);
        Due.is("works(19), the last", x.works(19), 1);
        Due.is("works(20), behind the last", x.works(20), BAD);
        Due.is("where(23, 0)", x.where(23, 0), 0);
        x.back(0);
        Due.is("hand(21, 0, 0, 1), one was undone", x.hand(21, 0, 0, 1), 20);
        Edge.refused("hand(0, 0, 0, 0) of a full one", FULL, Edge::full, y -> y.hand(0, 0, 0, 0));
        Edge.refused("hand(23, 7, 7, 1) of a full one", FULL, Edge::full, y -> y.hand(23, 7, 7, 1));
    }

    private static void handBadAheadOfFull() {
        Edge.refused("hand(-1, 0, 0, 0) of a full one", BAD, Edge::full, x -> x.hand(-1, 0, 0, 0));
        Edge.refused("hand(24, 0, 0, 0) of a full one", BAD, Edge::full, x -> x.hand(24, 0, 0, 0));
        Edge.refused("hand(0, 8, 0, 0) of a full one", BAD, Edge::full, x -> x.hand(0, 8, 0, 0));
        Edge.refused("hand(0, 0, 8, 0) of a full one", BAD, Edge::full, x -> x.hand(0, 0, 8, 0));
        Edge.refused("hand(0, 0, 0, 2) of a full one", BAD, Edge::full, x -> x.hand(0, 0, 0, 2));
        Edge.refusedAnywhere("hand(24, 8, 8, 2)", BAD, x -> x.hand(24, 8, 8, 2));
    }

    private static void holeBounds() {
        Edge.boundsAnywhere("hole(v, 1)", 0, 23, (x, v) -> x.hole(v, 1));
        Edge.boundsAnywhere("hole(0, v)", 1, 9, (x, v) -> x.hole(0, v));
        SharedPockets first = Due.with("90o", "o.", "0p00");
        Due.is("hole(0, 9)", first.hole(0, 9), 1);
        Due.is("where(0, 0), the first HOUR", first.where(0, 0), 9);
        SharedPockets last = Due.with("10o", "o.", "0p00");
        Due.is("hole(23, 1)", last.hole(23, 1), 1);
        Due.is("where(22, 0), ahead of the last HOUR", last.where(22, 0), 8);
        Due.is("where(23, 0), the last HOUR", last.where(23, 0), 9);
    }

    private static void sixHoles() {
        SharedPockets x = Due.with("60o;50o;40o;30o;20o;10o", "o.", "0p00 0p01 0p02 0p03 0p04 0p05");
        x.room(72);
        for (int n = 1; n <= 6; n++) {
            Due.is("hole(" + (3 * n) + ", " + n + ")", x.hole(3 * n, n), n);
        }
        Due.is("hole(1, 9), one more", x.hole(1, 9), FULL);
        Due.is("hole(1, 9), once more", x.hole(1, 9), FULL);
        Due.is("count(6)", x.count(6), 6);
        Due.is("load(2)", x.load(2), 21);
        int[] left = {20, 18, 15, 11, 6, 0};
        for (int n = 1; n <= 6; n++) {
            Due.is("load(" + (3 * n) + "), hole " + n, x.load(3 * n), left[n - 1]);
        }
        x.back(1);
        Due.is("hole(18, 5), one was undone", x.hole(18, 5), 6);
        Due.is("load(18)", x.load(18), 6);
        Edge.refused("hole(0, 9) of a full one", FULL, Edge::full, y -> y.hole(0, 9));
        Edge.refused("hole(23, 1) of a full one", FULL, Edge::full, y -> y.hole(23, 1));
    }

    private static void holeSizes() {
        for (int size = 1; size <= 9; size++) {
            SharedPockets x = Due.with("10o;20o;30o;40o;50o;60o;70o;80o", "o.;o.", ALL_IN + " 1t10");
            x.room(72);
            x.hole(2, size);
            for (int t = 1; t < 8; t++) {
                Due.is("where(2, " + t + ") by SIZE " + size, x.where(2, t), t + 1 <= size ? 9 : 8);
            }
            Due.is("where(2, 0), it is not in THE POCKET", x.where(2, 0), 1);
        }
        SharedPockets two = Due.with("30o;40o;50o", "o.", "0p00 0p01 0p02");
        two.hole(1, 4);
        two.hole(1, 3);
        Due.is("load(1), two in one HOUR", two.load(1), 5);
    }

    private static void holeBadAheadOfFull() {
        Edge.refused("hole(-1, 1) of a full one", BAD, Edge::full, x -> x.hole(-1, 1));
        Edge.refused("hole(24, 1) of a full one", BAD, Edge::full, x -> x.hole(24, 1));
        Edge.refused("hole(0, 0) of a full one", BAD, Edge::full, x -> x.hole(0, 0));
        Edge.refused("hole(0, 10) of a full one", BAD, Edge::full, x -> x.hole(0, 10));
        Edge.refusedAnywhere("hole(24, 10)", BAD, x -> x.hole(24, 10));
    }

    private static void backFromFull() {
        SharedPockets x = Edge.made(Edge::full);
        for (int left = 19; left >= 0; left--) {
            Due.is("back(0)", x.back(0), left);
            Due.is("count(4)", x.count(4), left);
            Due.is("works(" + left + "), it is undone", x.works(left), BAD);
        }
        Due.is("back(0), none is left", x.back(0), NOT);
        for (int left = 5; left >= 0; left--) {
            Due.is("back(1)", x.back(1), left);
            Due.is("count(6)", x.count(6), left);
        }
        Due.is("back(1), none is left", x.back(1), NOT);
        SharedPockets late = Due.with("50o", "o.;o.", "9p00 3p00 5t10");
        Due.is("back(0), the last told", late.back(0), 2);
        Due.is("where(23, 0)", late.where(23, 0), 8);
        Due.is("back(0), the last told, though not by HOURS", late.back(0), 1);
        Due.is("where(8, 0)", late.where(8, 0), 0);
        Due.is("where(9, 0)", late.where(9, 0), 8);
    }

    private static void backFromNone() {
        Edge.boundsAnywhere("back(v)", 0, 1, (x, v) -> x.back(v));
        Edge.refused("back(0) of none", NOT, Edge::empty, x -> x.back(0));
        Edge.refused("back(1) of none", NOT, Edge::empty, x -> x.back(1));
        Edge.refused("back(0), HOLES alone", NOT, x -> x.hole(3, 3), x -> x.back(0));
        Edge.refused("back(1), HANDS alone", NOT, x -> x.hand(3, 3, 3, 0), x -> x.back(1));
        Edge.refused("back(2) of none, BAD ahead of NOT", BAD, Edge::empty, x -> x.back(2));
        Edge.refused("back(-1) of none, BAD ahead of NOT", BAD, Edge::empty, x -> x.back(-1));
    }

    private static void readWholeOnes() {
        for (int n = 0; n <= 60; n++) {
            SharedPockets x = new SharedPockets();
            x.sheet(2, n % 3, n);
            Due.is("read(2) of " + n + " items", x.read(2), n / 4);
            Due.is("count(4) of " + n + " items", x.count(4), n / 4);
        }
        SharedPockets x = Due.with(Edge.EIGHT_THINGS, Edge.EIGHT_COUSINS);
        Due.fill(x, 0, 0, 23, 7, 7, 0, 0, 0, 0, 0, 23, 7, 7, 1);
        Due.is("read(0), the greatest and the least numbers", x.read(0), 3);
        Due.is("where(22, 7)", x.where(22, 7), 7);
        Due.is("where(23, 7), PUTS and TAKES", x.where(23, 7), 7);
        Due.is("where(0, 0)", x.where(0, 0), 8);
        Due.is("count(5)", x.count(5), 3);
        Due.is("get(0, 0, 8), the SHEET is as it was", x.get(0, 0, 8), 23);
        Due.is("lose(0), the SHEET is as it was", x.lose(0), 12);
    }

    /** Of four HANDS the third may not be: the two ahead of it are told, the one behind it is not. */
    private static void readAsLongAsEachMayBe() {
        int[][] wrong = {{-1, 0, 0, 0}, {24, 0, 0, 0}, {0, -1, 0, 0}, {0, 8, 0, 0}, {0, 0, -1, 0}, {0, 0, 8, 0}, {0, 0, 0, -1}, {0, 0, 0, 2}};
        for (int[] w : wrong) {
            SharedPockets x = Due.with("50o", "o.;o.");
            Due.fill(x, 3, 1, 5, 0, 0, 0, 6, 1, 0, 1, w[0], w[1], w[2], w[3], 7, 1, 0, 0);
            String call = "read(3), the third is " + w[0] + " " + w[1] + " " + w[2] + " " + w[3];
            Due.is(call, x.read(3), 2);
            Due.is(call + ", then count(4)", x.count(4), 2);
            Due.is(call + ", then where(7, 0)", x.where(7, 0), 1);
            Due.is(call + ", then count(8)", x.count(8), 0);
        }
        Edge.refused("read(0), the first may not be", 0, Edge::busy, x -> x.read(0));
        Edge.refused("read(1), there is none whole", 0, Edge::busy, x -> x.read(1));
        Edge.refused("read(2), the first may not be", 0, Edge::busy, x -> x.read(2));
    }

    private static void readUntilFull() {
        SharedPockets x = new SharedPockets();
        x.sheet(0, 0, 60);
        x.sheet(1, 2, 24);
        Due.is("read(0), fifteen", x.read(0), 15);
        Due.is("read(1), five of six", x.read(1), 5);
        Due.is("count(4)", x.count(4), 20);
        Due.is("read(1), none of six", x.read(1), 0);
        Due.is("count(4), still", x.count(4), 20);
        x.back(0);
        Due.is("read(0), one of fifteen", x.read(0), 1);
        Edge.refused("read(0) of a full one", 0, Edge::full, y -> y.read(0));
    }

    private static void readRefused() {
        Edge.bounds("read(v) of a full one", 0, 3, Edge::full, (x, v) -> x.read(v));
        Edge.bounds("read(v) of an empty one", 0, 3, Edge::empty, (x, v) -> x.read(v));
        Edge.refused("read(3), LOST", Edge.NULL, Edge::busy, x -> x.read(3));
        for (int s = 0; s < 4; s++) {
            int lost = s;
            Edge.refused("read(" + s + ") of an empty one", Edge.NULL, Edge::empty, x -> x.read(lost));
        }
    }
}
