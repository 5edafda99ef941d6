import java.io.IOException;

/** Sentences that name a boundary: promises 14 to 20, what happens in an HOUR and what is told behind it. */
public final class EdgesOfHoursTest {
    private static final int NONE = -1, BAD = -2;
    private static final String ALL_OF_ONE = "10o;20o;30o;40o;50o;60o;70o;80o";
    private static final String NOBODY_HONEST = "o.;o.;o.;o.;o.;o.;o.;o.";
    private static final String WORKS = "it works, if both are there, and that one has it, and there is room (PUTS), if it is in THE POCKET (TAKES).";
    private static final String HONEST = "In an HOUR first who is honest puts back what it TOOK in the HOUR ahead, of what it does not own and has still";
    private static final String SOUP = "Then soup that is in THE POCKET just now, and was so just then in both HOURS ahead, is LOST.";
    private static final String AUNT = "all in THE POCKET goes to its OWNERS that there are";

    public static void main(String[] args) throws IOException {
        Edge.open(args);
        Edge.says(14, "Where a THING is: 0 to 9. BAD.", EdgesOfHoursTest::whereBounds);
        Edge.says(14, "where a THING is (0 to 7 with a COUSIN, 8 in THE POCKET, 9 LOST)", EdgesOfHoursTest::whereAll);
        Edge.says(14, "Ahead of HOUR 0 each THING is with its OWNER; of one that there is not it is LOST.", EdgesOfHoursTest::whereAtFirst);
        Edge.says(14, HONEST, EdgesOfHoursTest::honestHours);
        Edge.says(14, "of what it does not own and has still", EdgesOfHoursTest::honestOwnAndStill);
        Edge.says(14, "(COUSIN by COUSIN, THING by THING, as there is room)", EdgesOfHoursTest::honestRoom);
        Edge.says(14, SOUP, EdgesOfHoursTest::soupHours);
        Edge.says(14, AUNT, EdgesOfHoursTest::auntAtNight);
        Edge.says(15, "What a COUSIN has, as bits. BAD.", EdgesOfHoursTest::hasBounds);
        Edge.says(15, "what a COUSIN has, as bits", EdgesOfHoursTest::hasNothingAndAll);
        Edge.says(16, "LOAD. BAD.", EdgesOfHoursTest::loadBounds);
        Edge.says(16, "LOAD: SIZES of all in THE POCKET", EdgesOfHoursTest::loadEmptyAndFull);
        Edge.says(17, "HAPPY, as bits. BAD.", EdgesOfHoursTest::happyBounds);
        Edge.says(17, "HAPPY: COUSINS who have what they WANT, as bits.", EdgesOfHoursTest::happyNobodyAndAll);
        Edge.says(18, "Whether a HAND works: 1, 0. BAD: no such.", EdgesOfHoursTest::worksBounds);
        Edge.says(18, WORKS, EdgesOfHoursTest::worksOrNot);
        Edge.says(19, "FAILS; NONE.", EdgesOfHoursTest::failsNone);
        Edge.says(19, "FAILS: the first (by HOURS, of like ones as told) that does not; NONE.", EdgesOfHoursTest::failsFirst);
        Edge.says(20, "WENT; NONE. BAD.", EdgesOfHoursTest::wentBounds);
        Edge.says(20, "WENT: the HOUR behind which a THING is LOST first, that was not ahead of HOUR 0; NONE.", EdgesOfHoursTest::wentFirst);
        Edge.close(14, 20);
    }

    private static void whereBounds() {
        Edge.bounds("where(v, 0)", 0, 23, Edge::busy, (x, v) -> x.where(v, 0));
        Edge.bounds("where(v, 7)", 0, 23, Edge::full, (x, v) -> x.where(v, 7));
        Edge.bounds("where(0, v) of three", 0, 2, Edge::busy, (x, v) -> x.where(0, v));
        Edge.bounds("where(23, v) of eight", 0, 7, Edge::full, (x, v) -> x.where(23, v));
        Edge.refused("where(0, 0) of none", BAD, Edge::empty, x -> x.where(0, 0));
        Edge.refused("where(24, 8), both wrong", BAD, Edge::full, x -> x.where(24, 8));
    }

    private static void whereAll() {
        SharedPockets x = Due.with("10o;17o;10o;10o", NOBODY_HONEST, "0p02 0p03");
        x.hole(1, 1);
        x.hand(2, 1, 1, 0);
        Due.is("where(0, 0), the first COUSIN", x.where(0, 0), 0);
        Due.is("where(0, 1), the last COUSIN", x.where(0, 1), 7);
        Due.is("where(0, 2), in THE POCKET", x.where(0, 2), 8);
        Due.is("where(1, 2), LOST", x.where(1, 2), 9);
        Due.is("where(23, 3), LOST", x.where(23, 3), 9);
        for (int c = 0; c < 8; c++) {
            Due.is("where(0, 0), COUSIN " + c, Due.with("1" + c + "f", NOBODY_HONEST).where(0, 0), c);
        }
    }

    private static void whereAtFirst() {
        for (int many = 0; many <= 8; many++) {
            SharedPockets x = Due.with("90o;81o;72o;63o;54o;45o;36o;27o", NOBODY_HONEST.substring(0, Math.max(0, 3 * many - 1)));
            for (int t = 0; t < 8; t++) {
                Due.is("where(0, " + t + ") of " + many + " COUSINS", x.where(0, t), t < many ? t : 9);
                Due.is("where(23, " + t + ") of " + many + " COUSINS", x.where(23, t), t < many ? t : 9);
            }
        }
    }

    /** Taken in any HOUR it is put back in the next one; behind the last there is none. */
    private static void honestHours() {
        for (int hour = 0; hour < 24; hour++) {
            SharedPockets x = Due.with("50o", "o.;h.", "0p00 " + hour + "t10");
            Due.is("where(" + hour + ", 0), taken", x.where(hour, 0), 1);
            if (hour < 23) {
                Due.is("where(" + (hour + 1) + ", 0), put back", x.where(hour + 1, 0), 8);
                Due.is("where(23, 0), put back for good", x.where(23, 0), 8);
            }
            SharedPockets any = Due.with("50o", "o.;o.", "0p00 " + hour + "t10");
            Due.is("where(23, 0), who is not honest", any.where(23, 0), 1);
        }
    }

    private static void honestOwnAndStill() {
        SharedPockets own = Due.with("51o;50o", "o.;h.", "0p10 0p01 1t10 1t11");
        Due.is("where(2, 0), its own", own.where(2, 0), 1);
        Due.is("where(2, 1), another's", own.where(2, 1), 8);
        SharedPockets never = Due.with("51o", "o.;h.");
        Due.is("where(1, 0), it TOOK nothing", never.where(1, 0), 1);
        SharedPockets put = Due.with("50o", "o.;h.;o.", "0p00 1t10 1p10");
        Due.is("load(2), it put it in itself", put.load(2), 5);
        put.hand(1, 2, 0, 1);
        Due.is("where(2, 0), another has it now", put.where(2, 0), 2);
        put.hand(1, 2, 0, 0);
        put.hand(1, 1, 0, 1);
        Due.is("where(2, 0), it has it again", put.where(2, 0), 8);
        SharedPockets sent = Due.with("50o", "o.;h.", "0p00 1t10 1p10");
        sent.aunt(0b10);
        Due.is("where(2, 0), the AUNT sent it home", sent.where(2, 0), 0);
    }

    private static void honestRoom() {
        String hands = "0p20 0p21 1t10 1t01 1p22";
        SharedPockets x = Due.with("32o;42o;52o", "h.;h.;o.", hands);
        int[][] wants = {{12, 8, 8}, {11, 1, 8}, {9, 1, 8}, {8, 8, 0}, {7, 1, 0}};
        for (int[] w : wants) {
            x.room(w[0]);
            Due.is("where(2, 0) by ROOM " + w[0], x.where(2, 0), w[1]);
            Due.is("where(2, 1) by ROOM " + w[0], x.where(2, 1), w[2]);
        }
        SharedPockets one = Due.with("32o;42o;52o", "o.;h.;o.", "0p20 0p21 1t11 1t10 1p22");
        int[][] byThing = {{12, 8, 8}, {11, 8, 1}, {9, 8, 1}, {8, 8, 1}, {7, 1, 1}};
        for (int[] w : byThing) {
            one.room(w[0]);
            Due.is("where(2, 0), one COUSIN, by ROOM " + w[0], one.where(2, 0), w[1]);
            Due.is("where(2, 1), one COUSIN, by ROOM " + w[0], one.where(2, 1), w[2]);
        }
        SharedPockets later = Due.with("50o;60o;10o", "o.;h.", "0p00 1t10 1p01 2t01 4p02 5t02");
        later.room(10);
        Due.is("where(2, 0), no room", later.where(2, 0), 1);
        for (int h = 3; h < 24; h++) {
            Due.is("where(" + h + ", 0), room, but it was not the HOUR ahead", later.where(h, 0), 1);
        }
    }

    /** In from any HOUR on it is LOST in the third: in HOUR 2 at first, and never if it comes in behind HOUR 21. */
    private static void soupHours() {
        for (int hour = 0; hour < 24; hour++) {
            SharedPockets x = Due.with("50s;50o;50f", "o.", hour + "p00 " + hour + "p01 " + hour + "p02");
            for (int h = hour; h < 24; h++) {
                Due.is("where(" + h + ", 0), in from " + hour + " on", x.where(h, 0), h - hour < 2 ? 8 : 9);
            }
            Due.is("where(23, 1), no soup", x.where(23, 1), 8);
            Due.is("where(23, 2), no soup", x.where(23, 2), 8);
        }
        SharedPockets out = Due.with("50s", "o.", "0p00 1t00 2p00");
        Due.is("where(2, 0), not in the HOUR ahead", out.where(2, 0), 8);
        Due.is("where(3, 0), not in the HOUR ahead of that", out.where(3, 0), 8);
        Due.is("where(4, 0), in both", out.where(4, 0), 9);
        SharedPockets now = Due.with("50s", "o.", "0p00 2t00");
        Due.is("where(2, 0), not in just now", now.where(2, 0), 0);
        SharedPockets sent = Due.with("50s", "o.", "0p00 1p00 2p00");
        sent.aunt(0b11);
        Due.is("where(2, 0), in just then, though the AUNT sent it home", sent.where(2, 0), 9);
        SharedPockets anew = Due.with("50s", "o.", "0p00 1t00 22p00");
        Due.is("where(23, 0), in at the end of the day", anew.where(23, 0), 8);
        anew.room(30);
        Due.is("where(0, 0), which is not ahead of its beginning", anew.where(0, 0), 8);
        SharedPockets put = Due.with("50s", "o.;h.", "0p00 1t10");
        Due.is("where(2, 0), put back, not in the HOUR ahead", put.where(2, 0), 8);
        Due.is("where(4, 0), three HOURS since", put.where(4, 0), 9);
    }

    private static void auntAtNight() {
        for (int hour = 0; hour < 24; hour++) {
            SharedPockets x = Due.with("50o;57o", "o.;o.", "0p00");
            x.aunt(1 << hour);
            Due.is("where(" + hour + ", 0), her HOUR", x.where(hour, 0), 0);
            if (hour > 0) {
                Due.is("where(" + (hour - 1) + ", 0), ahead of it", x.where(hour - 1, 0), 8);
            }
            Due.is("where(" + hour + ", 1), LOST at first", x.where(hour, 1), 9);
        }
        SharedPockets all = Due.with(Edge.EIGHT_THINGS, NOBODY_HONEST, "0p00 0p11 0p22 0p33 0p44 0p55 0p66 0p77 1t77 1t16");
        all.room(72);
        Due.is("load(0), all of them", all.load(0), 44);
        all.aunt(0b10);
        Due.is("load(1), none of them", all.load(1), 0);
        for (int t = 0; t < 8; t++) {
            Due.is("where(1, " + t + ")", all.where(1, t), t == 6 ? 1 : t);
        }
    }

    private static void hasBounds() {
        Edge.bounds("has(v, 0)", 0, 23, Edge::busy, (x, v) -> x.has(v, 0));
        Edge.bounds("has(v, 7)", 0, 23, Edge::full, (x, v) -> x.has(v, 7));
        Edge.bounds("has(0, v) of three", 0, 2, Edge::busy, (x, v) -> x.has(0, v));
        Edge.bounds("has(23, v) of eight", 0, 7, Edge::full, (x, v) -> x.has(23, v));
        Edge.refused("has(0, 0) of nobody", BAD, Edge::empty, x -> x.has(0, 0));
        Edge.refused("has(24, 8), both wrong", BAD, Edge::full, x -> x.has(24, 8));
    }

    private static void hasNothingAndAll() {
        SharedPockets x = Due.with(ALL_OF_ONE, "o.;o.", "1p00 1p07 2t10");
        Due.is("has(0, 0), all", x.has(0, 0), 0xFF);
        Due.is("has(0, 1), nothing", x.has(0, 1), 0);
        Due.is("has(1, 0), all but the first and the last", x.has(1, 0), 0x7E);
        Due.is("has(2, 1), the first", x.has(2, 1), 0x01);
        Due.is("has(0, 0), no THINGS", Due.with("", "o.").has(0, 0), 0);
        Due.is("has(0, 1), the last", Due.with(ALL_OF_ONE.substring(0, 28) + "81o", "o.;o.").has(0, 1), 0x80);
    }

    private static void loadBounds() {
        Edge.boundsAnywhere("load(v)", 0, 23, (x, v) -> x.load(v));
    }

    private static void loadEmptyAndFull() {
        Due.is("load(0), no THINGS", new SharedPockets().load(0), 0);
        Due.is("load(23), no THINGS", new SharedPockets().load(23), 0);
        SharedPockets x = Due.with("90o;90o;90o;90o;90o;90o;90o;90o", "o.", "3p00 3p01 3p02 3p03 3p04 3p05 3p06 3p07 5t07");
        x.room(72);
        Due.is("load(2), nothing", x.load(2), 0);
        Due.is("load(3), all", x.load(3), 72);
        Due.is("load(5), all but one", x.load(5), 63);
        x.hole(7, 9);
        Due.is("load(7), all LOST", x.load(7), 0);
    }

    private static void happyBounds() {
        Edge.boundsAnywhere("happy(v)", 0, 23, (x, v) -> x.happy(v));
    }

    private static void happyNobodyAndAll() {
        Due.is("happy(0), nobody there", new SharedPockets().happy(0), 0);
        Due.is("happy(0), nobody WANTS", Due.with("10o", NOBODY_HONEST).happy(0), 0);
        SharedPockets all = Due.with("10o;11o;12o;13o;14o;15o;16o;17o", "o0;o1;o2;o3;o4;o5;o6;o7", "1p77");
        Due.is("happy(0), all", all.happy(0), 0xFF);
        Due.is("happy(1), all but the last", all.happy(1), 0x7F);
        Due.is("happy(0), the THING is not there", Due.with("10o", "o1").happy(0), 0);
        Due.is("happy(0), the last THING there", Due.with("10o;10o", "o1").happy(0), 1);
        Due.is("happy(0), it is LOST", Due.with("17o", "o0").happy(0), 0);
        Due.is("happy(0), it is in THE POCKET", Due.with("10o", "o0", "0p00").happy(0), 0);
        Due.is("happy(0), another has it", Due.with("10o", "o.;o0").happy(0), 0);
        Due.is("happy(0), two WANT it", Due.with("11o", "o0;o0").happy(0), 2);
    }

    private static void worksBounds() {
        Edge.bounds("works(v) of seven", 0, 6, Edge::busy, (x, v) -> x.works(v));
        Edge.bounds("works(v) of twenty", 0, 19, Edge::full, (x, v) -> x.works(v));
        Edge.refused("works(0) of none", BAD, Edge::empty, x -> x.works(0));
        Edge.refused("works(-1) of none", BAD, Edge::empty, x -> x.works(-1));
    }

    private static void worksOrNot() {
        works("PUTS, all is well", "50o", "o.", "0p00", 1);
        works("PUTS, no such COUSIN", "50o", "o.", "0p10", 0);
        works("PUTS, no such THING", "50o", "o.", "0p01", 0);
        works("PUTS, another has it", "50o", "o.;o.", "0p10", 0);
        works("PUTS, it is in already", "50o", "o.", "0p00 1p00", 0);
        works("PUTS, it is LOST", "57o", "o.", "0p00", 0);
        works("PUTS, just room", "90o;90o;20o", "o.", "0p00 0p01 1p02", 1);
        works("PUTS, one too large", "90o;90o;30o", "o.", "0p00 0p01 1p02", 0);
        works("TAKES, all is well", "50o", "o.;o.", "0p00 0t10", 1);
        works("TAKES, no such COUSIN", "50o", "o.;o.", "0p00 0t20", 0);
        works("TAKES, no such THING", "50o", "o.;o.", "0p00 0t11", 0);
        works("TAKES, it is with another", "50o", "o.;o.", "0t10", 0);
        works("TAKES, it is with itself", "50o", "o.;o.", "0t00", 0);
        works("TAKES, it is LOST", "57o", "o.", "0t00", 0);
        works("TAKES, it was taken", "50o", "o.;o.;o.", "0p00 0t10 0t20", 0);
        works("the last COUSIN and the last THING", "17o;17o;17o;17o;17o;17o;17o;17o", NOBODY_HONEST, "23p77", 1);
    }

    /** Whether the last of these HANDS works. */
    private static void works(String why, String things, String cousins, String hands, int want) {
        SharedPockets x = Due.with(things, cousins, hands);
        Due.is("works(), " + why, x.works(x.count(4) - 1), want);
    }

    private static void failsNone() {
        Due.is("fails() of none", new SharedPockets().fails(), NONE);
        Due.is("fails(), all work", Due.with("50o", "o.", "0p00 1t00 1p00 23t00").fails(), NONE);
        Due.is("fails(), the only one", Due.with("50o", "o.", "0t00").fails(), 0);
    }

    private static void failsFirst() {
        Due.is("fails(), by HOURS", Due.with("50o", "o.", "23t00 22t00 0t00").fails(), 2);
        Due.is("fails(), of like ones as told", Due.with("50o", "o.", "5p00 5t77 5t66 5t00").fails(), 1);
        Due.is("fails(), the last HOUR", Due.with("50o", "o.", "23p00 22t00 22p00 23t00").fails(), 1);
        SharedPockets x = Due.with("50o", "o.");
        for (int k = 0; k < 20; k++) {
            x.hand(k, 0, 0, k == 19 ? 0 : k % 2);
        }
        Due.is("fails(), the last of twenty", x.fails(), 19);
    }

    private static void wentBounds() {
        Edge.bounds("went(v) of three", 0, 2, Edge::busy, (x, v) -> x.went(v));
        Edge.bounds("went(v) of eight", 0, 7, Edge::full, (x, v) -> x.went(v));
        Edge.refused("went(0) of none", BAD, Edge::empty, x -> x.went(0));
    }

    private static void wentFirst() {
        SharedPockets first = Due.with("50o", "o.", "0p00");
        Due.is("went(0), never", first.went(0), NONE);
        first.hole(0, 5);
        first.hole(3, 9);
        Due.is("went(0), the first HOUR", first.went(0), 0);
        SharedPockets last = Due.with("50o", "o.", "23p00");
        last.hole(23, 5);
        Due.is("went(0), the last HOUR", last.went(0), 23);
        Due.is("went(0), LOST ahead of HOUR 0", Due.with("51o", "o.").went(0), NONE);
        Due.is("went(0), nobody there", Due.with("50o", "").went(0), NONE);
        Due.is("went(0), soup in time", Due.with("50s", "o.", "21p00").went(0), 23);
        Due.is("went(0), soup too late", Due.with("50s", "o.", "22p00").went(0), NONE);
    }
}
