import java.io.IOException;

/** Sentences of the document that name no boundary, each with a test of its own. */
public final class SentencesTest {
    private static final int NONE = -1, BAD = -2, NOT = -3, FULL = -4;
    private static final int PUTS = 0, TAKES = 1;
    private static final String FAULT = "The FAULT of a text is the place of the first byte with which it cannot go on";
    private static final String HOUR_PART = "Then HANDS as told. Then HOLES (HOUR and SIZE as told, 6 at most): all in THE POCKET that is of that SIZE, or less, is LOST. "
        + "Then soup that is in THE POCKET just now, and was so just then in both HOURS ahead, is LOST. "
        + "Then, if this is one of the AUNT's HOURS (none at first), all in THE POCKET goes to its OWNERS that there are.";
    private static final String LEND = "of numbers: 64 if it TAKES, and 8 times the COUSIN, and the THING: how many; the i-th; NONE.";
    private static final String HANGS = "HANGS of an HOUR: THINGS that behind it are not in the same place by all orders of its HANDS "
        + "(of the first five of these; others as told behind these), as bits.";
    private static final String SORT = "SORT: the fewest HOURS (0 to 2) of the AUNT's, in place of those told, by which LOAD is no more than a told bound (0 to 72)";
    private static final String WHEN = "WHEN of a COUSIN and a THING: HOURS in each of which, by one HAND more that TAKES it, told behind all others, "
        + "all that was FELT comes out so, as bits.";
    private static final String FEEL = "FEEL of both: the HOUR behind which, of HOURS that WHEN tells, the greater of both numbers "
        + "(by which the THING is in THE POCKET, by which it is not) is least";
    private static final String JUMPS = "JUMPS: behind each HOUR up to a told one (0 to 12) behind which a frog is in THE POCKET (as all is told) "
        + "it jumps out by c sixteenths (0 to 16), each time by itself: the chance that it never has: a FRACTION";
    private static final String LOTS = "LOTS of m: SEED becomes 1103515245 SEED and 12345, as ints that wrap; its upper 16 bits as a number from 0 on, modulo m.";
    private static final String DAY = "DAY by a SEED: in each HOUR from 0 to a told one a LOT of COUSINS, a LOT of THINGS, a LOT of 2 (0 PUTS, 1 TAKES) "
        + "tells one HAND more, told behind all others (no LOTS where there are no COUSINS, or no THINGS): where a THING is behind it; how many of these work.";
    private static final String DIGEST = "of THINGS thing() 0 to 2, where(5, it), where(23, it), went(), lend(0, it, 3, 4, NONE and 0) (as it is told), thief(), "
        + "feel(0, it) (as it is told), jumps(5, it, 9), above, below, day(7, 12, it); of COUSINS cousin() 0, 1, has(9, it), when(it, 0) (as it is told); "
        + "of HOURS 0, 1, 5, 12, 23 load(), happy(), hangs(); of HANDS works(); fails(), sort(9, NONE and 0), day(7, 12, NONE); as longs that wrap.";
    private static final String FREE = "An object is used for at most 512 calls after it has been made; what later calls answer is free.";

    public static void main(String[] args) throws IOException {
        Edge.open(args);
        Edge.says(1, FREE, SentencesTest::laterCallsEnd);
        Edge.says(5, FAULT, SentencesTest::faultWhereNoByteMends);
        Edge.says(13, "HANDS from a SHEET: its items, four for each (HOUR, COUSIN, THING, what)", SentencesTest::readAsIfTold);
        Edge.says(14, "Behind an HOUR: where a THING is (0 to 7 with a COUSIN, 8 in THE POCKET, 9 LOST)", SentencesTest::behindNotAhead);
        Edge.says(14, "In an HOUR first who is honest puts back", SentencesTest::honestAheadOfHands);
        Edge.says(14, HOUR_PART, SentencesTest::orderOfAnHour);
        Edge.says(18, "Of a HAND: whether it works; FAILS: the first", SentencesTest::worksHandByHand);
        Edge.says(21, "LEND (HANDS in an HOUR, behind another one): how many (i = NONE), the i-th (0, 1; NONE); NONE. BAD.", SentencesTest::lendRows);
        Edge.says(21, LEND, SentencesTest::lendWorksAsItTells);
        Edge.says(22, HANGS, SentencesTest::hangsOnWhoIsFirst);
        Edge.says(23, SORT, SentencesTest::sortKeepsItFromBulging);
        Edge.says(23, "SORT: how many (i = NONE), the i-th HOUR (0, 1; NONE); NONE.", SentencesTest::sortChangesNothing);
        Edge.says(26, WHEN, SentencesTest::whenAsTold);
        Edge.says(28, FEEL, SentencesTest::feelParts);
        Edge.says(29, JUMPS, SentencesTest::jumpsEachTime);
        Edge.says(30, LOTS, SentencesTest::lotsByHand);
        Edge.says(30, DAY, SentencesTest::dayAsTold);
        Edge.says(33, "Item i, treated as of a FORM, becomes v", SentencesTest::putOneItem);
        Edge.says(33, "2 INDEX: there is no such item; 3 CAST: it has another FORM;", SentencesTest::castAheadOfIndex);
        Edge.says(35, "4 STORE: unlike FORMS;", SentencesTest::storeUnlikeForms);
        Edge.says(37, "They change nothing (FINDINGS but count() 8).", SentencesTest::refusedOneByOne);
        Edge.says(38, DIGEST, SentencesTest::digestByHand);
        Due.end();
    }

    /** Free is what they answer; none may throw or fail to end. */
    private static void laterCallsEnd() {
        SharedPockets x = Edge.made(Edge::full);
        for (int call = 0; call < 3000; call++) {
            x.type(call % 2, call % 256);
            x.undo(call / 2 % 2);
            x.hand(call % 24, call % 8, call / 8 % 8, call % 2);
            x.back(call % 2);
            x.lend(call % 8, call / 8 % 8, call % 24, call / 3 % 24, -1);
            x.sheet(call % 4, call % 3, call % 61);
            x.read(call % 4);
            x.digest();
        }
        Due.is("fault(2), still BAD", x.fault(2), BAD);
    }

    /** With whatever byte in place of it, the text goes on; with it, no text behind it is well. */
    private static void faultWhereNoByteMends() {
        String[] texts = {"90o;81s;72", "o0;h1;o"};
        for (int text = 0; text < 2; text++) {
            for (int place = 0; place < texts[text].length(); place++) {
                SharedPockets x = new SharedPockets();
                Due.type(x, text, texts[text].substring(0, place) + "!" + texts[text].substring(place + 1));
                Due.is("fault(" + text + "), byte " + place + " is !", x.fault(text), place);
            }
        }
    }

    private static void readAsIfTold() {
        int[] items = {4, 1, 0, TAKES, 0, 0, 0, PUTS, 4, 0, 1, PUTS, 2, 1, 1, TAKES};
        for (int form = 0; form < 3; form++) {
            SharedPockets read = Due.with("50o;30s", "o1;h0");
            SharedPockets told = Due.with("50o;30s", "o1;h0");
            Due.fill(read, form, form, items);
            Due.is("read(" + form + ")", read.read(form), 4);
            for (int i = 0; i < items.length; i += 4) {
                told.hand(items[i], items[i + 1], items[i + 2], items[i + 3]);
            }
            Due.is("digest() of form " + form, read.digest(), told.digest());
            Due.is("works(3), it comes ahead of the others by HOURS", read.works(3), 0);
            Due.is("where(4, 0)", read.where(4, 0), 1);
            Due.is("where(4, 1)", read.where(4, 1), 8);
        }
    }

    private static void behindNotAhead() {
        SharedPockets x = Due.with("30o;41o", "o.;o.", "5p00 5t10 7p11 7t11 7p11");
        Due.is("where(4, 0)", x.where(4, 0), 0);
        Due.is("where(5, 0), where it comes to in that HOUR", x.where(5, 0), 1);
        Due.is("where(7, 1), the last of three", x.where(7, 1), 8);
        x.hole(7, 4);
        Due.is("where(7, 1), behind the HOLE", x.where(7, 1), 9);
        Due.is("where(6, 1)", x.where(6, 1), 1);
    }

    /** What is put back has room ahead of what HANDS put in, and can be taken in that HOUR. */
    private static void honestAheadOfHands() {
        SharedPockets x = Due.with("90o;92o", "o.;h.;o.", "0p00 1t10 2p21 2t00");
        x.room(9);
        Due.is("works(2), the room is taken again", x.works(2), 0);
        Due.is("works(3), it was put back", x.works(3), 1);
        Due.is("where(2, 0)", x.where(2, 0), 0);
        Due.is("count(4), what is put back is no HAND", x.count(4), 4);
        Due.is("count(5)", x.count(5), 3);
    }

    private static void orderOfAnHour() {
        SharedPockets holeFirst = Due.with("30s;50s", "o.;o.", "0p00 0p01");
        holeFirst.hole(2, 3);
        holeFirst.aunt(1 << 2);
        Due.is("where(2, 0), by the HOLE", holeFirst.where(2, 0), 9);
        Due.is("where(2, 1), by soup, ahead of the AUNT", holeFirst.where(2, 1), 9);
        SharedPockets hands = Due.with("30o;50o", "o.;o.", "3p00 3p01 3t10");
        hands.hole(3, 9);
        hands.aunt(1 << 3);
        Due.is("where(3, 0), taken ahead of the HOLE", hands.where(3, 0), 1);
        Due.is("where(3, 1), lost ahead of the AUNT", hands.where(3, 1), 9);
        SharedPockets aunt = Due.with("31o", "o.;h.", "0p10 1t00 1p00");
        aunt.aunt(1 << 1);
        Due.is("where(1, 0), to its OWNER", aunt.where(1, 0), 1);
        Due.is("where(2, 0), who is sent its own TOOK nothing", aunt.where(2, 0), 1);
        SharedPockets soup = Due.with("30s", "o.", "0p00 2t00 3p00 4t00 4p00");
        Due.is("where(4, 0), an HOUR without", soup.where(4, 0), 8);
        Due.is("where(5, 0), three HOURS again", soup.where(5, 0), 9);
    }

    private static void worksHandByHand() {
        SharedPockets x = Due.with("90o;90o;90o", "o.;o.", "0p00 0p01 0p02 1t10 1t10 2p02 2p10 3p72 3t07");
        int[] works = {1, 1, 0, 1, 0, 1, 0, 0, 0};
        for (int k = 0; k < works.length; k++) {
            Due.is("works(" + k + ")", x.works(k), works[k]);
        }
        Due.is("fails()", x.fails(), 2);
        Due.is("count(5)", x.count(5), 4);
    }

    private static void lendRows() {
        SharedPockets x = Due.with("50o", "o.;o.;o.", "3p00");
        int[][] due = {{0, 2, 2, 0, NONE, NONE}, {1, 3, 3, 1, 72, NONE}, {2, 1, 2, 2, 0, 80}, {2, 4, 3, NONE, NONE, NONE}};
        for (int[] d : due) {
            for (int i = -1; i <= 1; i++) {
                String call = "lend(" + d[0] + ", 0, " + d[1] + ", " + d[2] + ", " + i + ")";
                Due.is(call, x.lend(d[0], 0, d[1], d[2], i), d[4 + i]);
            }
            Due.is("lend(" + d[0] + ", 0, " + d[1] + ", " + d[2] + ", 2)", x.lend(d[0], 0, d[1], d[2], 2), BAD);
        }
        Due.is("count(4), none was told", x.count(4), 1);
    }

    /** The HANDS that it tells are told, one by one, and then the COUSIN has the THING. */
    private static void lendWorksAsItTells() {
        for (int hour = 0; hour < 6; hour++) {
            for (int c = 0; c < 3; c++) {
                for (int t = 0; t < 3; t++) {
                    SharedPockets x = Due.with("70o;61s;52f", "o1;h2;o0", "1p00 2p11 3t10 3p22");
                    x.room(12);
                    int many = x.lend(c, t, hour, hour + 1, NONE);
                    int[] row = {x.lend(c, t, hour, hour + 1, 0), x.lend(c, t, hour, hour + 1, 1)};
                    for (int i = 0; i < many; i++) {
                        x.hand(hour, row[i] / 8 % 8, row[i] % 8, row[i] / 64);
                    }
                    String call = "lend(" + c + ", " + t + ", " + hour + ", " + (hour + 1) + ")";
                    Due.is(call + ", then where()", x.where(hour + 1, t) == c ? 1 : 0, many == NONE ? 0 : 1);
                    Due.is(call + ", rows behind the last", (many < 1 ? row[0] : NONE) + (many < 2 ? row[1] : NONE), -2);
                }
            }
        }
    }

    private static void hangsOnWhoIsFirst() {
        SharedPockets two = Due.with("50o", "o.;o.;o.", "0p00 1t10 1t20");
        Due.is("hangs(1), two TAKE it", two.hangs(1), 1);
        Due.is("hangs(0), one HAND", two.hangs(0), 0);
        Due.is("hangs(2), no HAND, though it hung", two.hangs(2), 0);
        SharedPockets room = Due.with("90o;91o;22o", "o.;o.;o.", "4p00 4p11 4p22");
        room.room(11);
        Due.is("hangs(4), no room for both of SIZE 9", room.hangs(4), 0b011);
        room.room(10);
        Due.is("hangs(4), room for one of all", room.hangs(4), 0b111);
        room.room(20);
        Due.is("hangs(4), room for all", room.hangs(4), 0);
        SharedPockets aunt = Due.with("50o", "o.;o.", "0p00 0t00");
        Due.is("hangs(0), PUTS and TAKES", aunt.hangs(0), 1);
        aunt.aunt(1);
        Due.is("hangs(0), the AUNT sends it home by any order", aunt.hangs(0), 0);
    }

    /**
     * LOAD is 9 from HOUR 2 on, 17 from 4 on, 24 from 6 on. The AUNT in HOUR 2 leaves 15 in the end, in HOUR 4 9 and 7,
     * in both 7; a third HOUR would be needed for less.
     */
    private static void sortKeepsItFromBulging() {
        for (int bound = 0; bound <= 30; bound++) {
            SharedPockets x = Due.with("90o;80o;70o", "o.", "2p00 4p01 6p02");
            x.room(72);
            x.aunt(1 << 3);
            int[] due = bound < 7 ? new int[] {NONE, NONE, NONE} : bound < 9 ? new int[] {2, 2, 4}
                : bound < 15 ? new int[] {1, 4, NONE} : bound < 24 ? new int[] {1, 2, NONE} : new int[] {0, NONE, NONE};
            int hours = 0;
            for (int i = -1; i <= 1; i++) {
                int got = x.sort(bound, i);
                Due.is("sort(" + bound + ", " + i + ")", got, due[i + 1]);
                hours |= i >= 0 && got >= 0 ? 1 << got : 0;
            }
            x.aunt(hours);
            for (int h = 0; h < 24; h++) {
                Due.is("sort(" + bound + ", ..), then load(" + h + ")", due[0] == NONE || x.load(h) <= bound ? 1 : 0, 1);
            }
        }
    }

    private static void sortChangesNothing() {
        SharedPockets x = Due.with("90o;80o", "o.", "2p00 4p01 20t00");
        x.aunt(1 << 9);
        Due.is("sort(9, NONE)", x.sort(9, NONE), 1);
        Due.is("sort(9, 0)", x.sort(9, 0), 2);
        Due.is("sort(9, 1)", x.sort(9, 1), NONE);
        Due.is("load(8), the AUNT's HOURS are those told", x.load(8), 17);
        Due.is("load(9)", x.load(9), 0);
        Due.is("aunt(0)", x.aunt(0), 1 << 9);
        Due.is("sort(9, 0), though none are told", x.sort(9, 0), 2);
    }

    /** An HOUR is one of WHEN's if the HAND, when it is told, makes all come out so. */
    private static void whenAsTold() {
        int bits = 0;
        for (int h = 0; h < 24; h++) {
            SharedPockets told = Due.with("50o;31o", "o.;h.;o.", "2p00 3p11 9t20 12p20");
            told.hand(h, 1, 0, TAKES);
            if (told.where(5, 0) == 8 && told.where(10, 0) != 8 && told.where(13, 0) == 8 && told.where(4, 1) == 8) {
                bits |= 1 << h;
            }
        }
        SharedPockets x = Due.with("50o;31o", "o.;h.;o.", "2p00 3p11 9t20 12p20");
        x.felt(5, 0, 1);
        x.felt(10, 0, 0);
        x.felt(13, 0, 1);
        x.felt(4, 1, 1);
        Due.is("when(1, 0)", x.when(1, 0), bits);
        Due.is("when(1, 0), not in HOURS 5 and 13", bits, 0xFFFFFF & ~(1 << 5 | 1 << 13));
        // in HOURS 2 to 5 it is gone too early, in 6 to 8 cousin 2 finds nothing and has nothing to put in, in 12 and 13 it is gone behind 13
        Due.is("when(0, 0), who is not honest keeps it", x.when(0, 0), 0xFFFFFF & ~(0b1111111 << 2 | 0b11 << 12));
    }

    private static void feelParts() {
        SharedPockets x = Due.with("50o", "o.;o.", "2p00");
        x.felt(5, 0, 1);
        x.felt(11, 0, 0);
        Due.is("when(1, 0)", x.when(1, 0), 0b111111 << 6);
        Due.is("feel(1, 0), three and three", x.feel(1, 0), 8);
        x.felt(8, 0, 1);
        Due.is("when(1, 0), three are left", x.when(1, 0), 0b111 << 9);
        Due.is("feel(1, 0), one and two", x.feel(1, 0), 9);
        x.felt(9, 0, 0);
        Due.is("when(1, 0), one is left", x.when(1, 0), 1 << 9);
        Due.is("feel(1, 0), all are alike", x.feel(1, 0), 0);
    }

    private static void jumpsEachTime() {
        SharedPockets x = Due.with("50f;60f;70o", "o.", "1p00 3t00 6p00 2p01");
        int[] times = {0, 1, 2, 2, 2, 2, 3, 4, 5, 6, 7, 8, 9};
        for (int hour = 0; hour <= 12; hour++) {
            long above = 1;
            long below = 1;
            for (int k = 0; k < times[hour]; k++) {
                above *= 11;
                below *= 16;
            }
            Due.is("jumps(5, 0, " + hour + ", 0)", x.jumps(5, 0, hour, 0), above);
            Due.is("jumps(5, 0, " + hour + ", 1)", x.jumps(5, 0, hour, 1), below);
        }
        Due.is("where(12, 0), it jumps by chance alone", x.where(12, 0), 8);
        x.hole(8, 5);
        Due.is("jumps(8, 0, 12, 1), LOST in HOUR 8", x.jumps(8, 0, 12, 1), 1 << 4);
        x.aunt(1 << 7);
        Due.is("jumps(8, 0, 12, 1), sent home in HOUR 7", x.jumps(8, 0, 12, 1), 1 << 3);
    }

    /** SEED 1 becomes 1103527590, -1770082073 and 662824084; their upper 16 bits are 16838, 38526 and 10113. */
    private static void lotsByHand() {
        SharedPockets x = Due.with("10o;10o;10o;10o;10o;10o;11o", "o.;o.;o.;o.;o.");
        // 16838 modulo 5 is 3, 38526 modulo 7 is 5, 10113 modulo 2 is 1: cousin 3 TAKES thing 5
        Due.is("day(1, 0, 5)", x.day(1, 0, 5), 0);
        Due.is("day(1, 0, NONE)", x.day(1, 0, NONE), 0);
        x.hand(0, 0, 5, PUTS);
        Due.is("day(1, 0, NONE), it is in", x.day(1, 0, NONE), 1);
        for (int t = 0; t < 7; t++) {
            Due.is("day(1, 0, " + t + ")", x.day(1, 0, t), t == 5 ? 3 : t == 6 ? 1 : 0);
        }
        // SEED 0 becomes 12345, -740551042 and -1492899873; 0, 54236 and 42756 are modulo 5, 7 and 2 all 0: cousin 0 PUTS thing 0
        SharedPockets y = Due.with("10o;10o;10o;10o;10o;10o;11o", "o.;o.;o.;o.;o.");
        Due.is("day(0, 0, NONE)", y.day(0, 0, NONE), 1);
        for (int t = 0; t < 7; t++) {
            Due.is("day(0, 0, " + t + ")", y.day(0, 0, t), t == 0 ? 8 : t == 6 ? 1 : 0);
        }
    }

    /** Each HAND of the LOTS is told behind those that are there: all answers are those of where() and works(). */
    private static void dayAsTold() {
        for (int seed = -3; seed < 30; seed++) {
            SharedPockets x = Due.with("40o;31s;52f", "o.;h.;o.", "1p00 3p11 4t21 6t10");
            SharedPockets told = Due.with("40o;31s;52f", "o.;h.;o.", "1p00 3p11 4t21 6t10");
            int lot = seed;
            for (int h = 0; h <= 15; h++) {
                int[] drawn = new int[3];
                for (int k = 0; k < 3; k++) {
                    lot = lot * 1103515245 + 12345;
                    drawn[k] = (lot >> 16 & 0xFFFF) % (k == 2 ? 2 : 3);
                }
                told.hand(h, drawn[0], drawn[1], drawn[2]);
            }
            int works = 0;
            for (int k = 4; k < 20; k++) {
                works += told.works(k);
            }
            Due.is("day(" + seed + ", 15, NONE)", x.day(seed, 15, NONE), works);
            for (int t = 0; t < 3; t++) {
                Due.is("day(" + seed + ", 15, " + t + ")", x.day(seed, 15, t), told.where(15, t));
            }
            Due.is("count(4), no HAND was told", x.count(4), 4);
        }
    }

    private static void putOneItem() {
        for (int form = 0; form < 3; form++) {
            SharedPockets x = new SharedPockets();
            x.sheet(0, form, 3);
            x.sheet(1, form, 3);
            Due.is("put(0, " + form + ", 1, -7)", x.put(0, form, 1, -7), 1);
            int[] due = {0, -7, 0};
            for (int i = 0; i < 3; i++) {
                Due.is("get(0, " + form + ", " + i + ")", x.get(0, form, i), due[i]);
                Due.is("get(1, " + form + ", " + i + "), another SHEET", x.get(1, form, i), 0);
            }
            Due.is("put(0, " + form + ", 1, 9)", x.put(0, form, 1, 9), 1);
            Due.is("get(0, " + form + ", 1), anew", x.get(0, form, 1), 9);
        }
    }

    private static void castAheadOfIndex() {
        for (int form = 0; form < 3; form++) {
            for (int as = 0; as < 3; as++) {
                SharedPockets x = new SharedPockets();
                x.sheet(2, form, 2);
                String call = "(2, " + as + ", ..) of form " + form;
                Due.is("put" + call, x.put(2, as, 1, 5), as == form ? 1 : Edge.CAST);
                Due.is("count(8)", x.count(8), as == form ? 0 : 3);
                Due.is("put" + call + ", no such item", x.put(2, as, 2, 5), as == form ? Edge.INDEX : Edge.CAST);
                Due.is("count(8)", x.count(8), as == form ? 2 : 3);
                Due.is("get" + call, x.get(2, as, 1), as == form ? 5 : Edge.LEAST);
                Due.is("get" + call + ", no such item", x.get(2, as, -1), Edge.LEAST);
                Due.is("count(8)", x.count(8), as == form ? 2 : 3);
            }
        }
    }

    private static void storeUnlikeForms() {
        for (int from = 0; from < 3; from++) {
            for (int to = 0; to < 3; to++) {
                SharedPockets x = new SharedPockets();
                Due.fill(x, 0, from, 1, 2, 3);
                Due.fill(x, 1, to, 4, 5, 6);
                Due.is("copy(0, 0, 1, 1, 2)", x.copy(0, 0, 1, 1, 2), from == to ? 1 : Edge.STORE);
                Due.is("get(1, .., 0)", x.get(1, to, 0), 4);
                Due.is("get(1, .., 1)", x.get(1, to, 1), from == to ? 1 : 5);
                Due.is("get(1, .., 2)", x.get(1, to, 2), from == to ? 2 : 6);
                Due.is("copy(0, 9, 1, 9, 9), STORE ahead of INDEX", x.copy(0, 9, 1, 9, 9), from == to ? Edge.INDEX : Edge.STORE);
                Due.is("copy(0, 0, 1, 0, 0), of no items", x.copy(0, 0, 1, 0, 0), from == to ? 1 : Edge.STORE);
            }
        }
    }

    /** One refusal of each kind, each call with all else as it should be. */
    private static void refusedOneByOne() {
        Edge.refused("type(0, 49), FULL", FULL, Edge::full, x -> x.type(0, 49));
        Edge.refused("undo(0), NOT", NOT, Edge::empty, x -> x.undo(0));
        Edge.refused("room(0), BAD", BAD, Edge::busy, x -> x.room(0));
        Edge.refused("hand(0, 0, 0, 0), FULL", FULL, Edge::full, x -> x.hand(0, 0, 0, 0));
        Edge.refused("felt(0, 0, 0), FULL", FULL, Edge::full, x -> x.felt(0, 0, 0));
        Edge.refused("day(1, 24, 0), BAD", BAD, Edge::full, x -> x.day(1, 24, 0));
        Edge.refused("lose(3), NULL", Edge.NULL, Edge::busy, x -> x.lose(3));
        Edge.refused("put(0, 0, 5, 1), INDEX", Edge.INDEX, Edge::busy, x -> x.put(0, 0, 5, 1));
        Edge.refused("put(0, 1, 0, 1), CAST", Edge.CAST, Edge::busy, x -> x.put(0, 1, 0, 1));
        Edge.refused("copy(1, 0, 2, 0, 1), STORE", Edge.STORE, Edge::busy, x -> x.copy(1, 0, 2, 0, 1));
        Edge.refused("sheet(0, 0, -1), SIZE", Edge.SIZE, Edge::busy, x -> x.sheet(0, 0, -1));
        Edge.refused("write(0, 3), NULL", Edge.NULL, Edge::busy, x -> x.write(0, 3));
        Edge.found("get(0, 0, 5), INDEX", Edge.LEAST, 2, Edge::busy, x -> x.get(0, 0, 5));
        Edge.refused("jumps(17, 0, 0, 0), BAD", Long.MIN_VALUE + 2, Edge::busy, x -> x.jumps(17, 0, 0, 0));
    }

    /** A frog of SIZE 5 and its OWNER, who WANTS it and is honest; it is PUT in HOUR 1, and nothing else happens. */
    private static void digestByHand() {
        int[] day = dayOfOne();
        // behind HOURS 1 to 9 the frog stays by 11 sixteenths, each time by itself
        long above = 11L * 11 * 11 * 11 * 11 * 11 * 11 * 11 * 11;
        long below = 1L << 36;
        long[] values = {1, 1, 3, 2, 1, 1, 0, 0, NONE, NONE,
            5, 0, 2, 8, 8, NONE, 1, 64, 1, 12, above, below, day[0],
            1, 0, 0, 0xFFFFFF,
            0, 1, 0, 5, 0, 0, 5, 0, 0, 5, 0, 0, 5, 0, 0,
            1, NONE, 0, NONE, day[1]};
        long h = 17;
        for (long v : values) {
            h = 31 * h + v;
        }
        Due.is("digest()", Due.with("50f", "h0", "1p00").digest(), h);
    }

    /** Where the one THING is behind HOUR 12 by SEED 7, and how many HANDS of the LOTS work: there only the LOT of 2 counts. */
    private static int[] dayOfOne() {
        int lot = 7;
        int place = 0;
        int works = 0;
        for (int h = 0; h <= 12; h++) {
            for (int k = 0; k < 3; k++) {
                lot = lot * 1103515245 + 12345;
            }
            place = h == 1 ? 8 : place;
            int what = lot >>> 16 & 1;
            if (place == (what == PUTS ? 0 : 8)) {
                place = what == PUTS ? 8 : 0;
                works++;
            }
        }
        return new int[] {place, works};
    }
}
