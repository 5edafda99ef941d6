/** Promises 14 to 20, and the order of things in an HOUR. */
public final class HoursTest {
    public static void main(String[] args) {
        ownersThere();
        handsWork();
        honestPutsBack();
        honestAsThereIsRoom();
        honestInTurn();
        holesThenAunt();
        soup();
        soupAndAunt();
        promise15();
        promise16();
        promise17();
        promise18And19();
        promise20();
        Due.end();
    }

    private static void where(SharedPockets x, String why, int hour, int thing, int want) {
        Due.is("14: where(" + hour + ", " + thing + "), " + why, x.where(hour, thing), want);
    }

    private static void ownersThere() {
        SharedPockets x = Due.with("50o;31o;22o", "o.;o.");
        where(x, "with its owner", 0, 0, 0);
        where(x, "with its owner", 23, 1, 1);
        where(x, "no such owner", 0, 2, 9);
        Due.is("14: where(-1, 0)", x.where(-1, 0), -2);
        Due.is("14: where(24, 0)", x.where(24, 0), -2);
        Due.is("14: where(0, 3)", x.where(0, 3), -2);
        Due.is("14: where(0, -1)", x.where(0, -1), -2);
        Due.hands(x, "0p22 0p02");
        where(x, "lost for good", 5, 2, 9);
        Due.type(x, 1, ";o.");
        where(x, "now there is the owner", 0, 2, 8);
    }

    private static void handsWork() {
        SharedPockets x = Due.with("50o;61o", "o.;o.");
        Due.hands(x, "1t10 2p10 3p00 3t00 3p00 4t10 4t00 5p11 6p50 6t05");
        where(x, "not in the pocket", 1, 0, 0);
        where(x, "it is not that one's", 2, 0, 0);
        where(x, "in, out and in again", 3, 0, 8);
        where(x, "the first takes it", 4, 0, 1);
        where(x, "put in", 5, 1, 8);
        int[] works = {0, 0, 1, 1, 1, 1, 0, 1, 0, 0};
        for (int k = 0; k < works.length; k++) {
            Due.is("18: works(" + k + ")", x.works(k), works[k]);
        }
        SharedPockets none = Due.with("50o;60o", "o.;o.");
        Due.hands(none, "0p02 0p20 0t02 1p00 2t20");
        Due.is("18: works(0), the thing behind the last", none.works(0), 0);
        Due.is("18: works(1), the cousin behind the last", none.works(1), 0);
        Due.is("18: works(4), the cousin behind the last", none.works(4), 0);
        Due.is("16: load(0)", none.load(0), 0);
        SharedPockets y = Due.with("50o", "o.;o.");
        Due.hands(y, "1t10 0p00");
        where(y, "by HOURS, not as told", 1, 0, 1);
    }

    private static void honestPutsBack() {
        SharedPockets x = Due.with("50o;40o;31o", "o.;h.;o.");
        Due.hands(x, "0p00 0p01 0p11 1t10 1t21 1t12 2t20");
        where(x, "taken", 1, 0, 1);
        where(x, "put back first, so another can take it", 2, 0, 2);
        where(x, "who is not honest keeps it", 2, 1, 2);
        SharedPockets y = Due.with("50o;31o", "o.;h.");
        Due.hands(y, "0p00 0p11 1t10 1t11");
        where(y, "put back", 2, 0, 8);
        where(y, "its own is kept", 2, 1, 1);
        where(y, "and stays in", 23, 0, 8);
        SharedPockets z = Due.with("50o", "h.;h.;o.");
        Due.hands(z, "0p00 1t10 1p10 1t20");
        where(z, "taken, put in and taken by another", 2, 0, 2);
    }

    /** What it could not put back it keeps: in the next HOUR the HOUR ahead is another. */
    private static void honestAsThereIsRoom() {
        SharedPockets x = Due.with("50o;62o", "o.;h.;o.");
        x.room(6);
        Due.hands(x, "0p00 1t10 1p21 2t21");
        where(x, "no room in hour 2", 2, 0, 1);
        where(x, "room again, but it was not the hour ahead", 3, 0, 1);
        where(x, "room again, but it was not the hour ahead", 23, 0, 1);
        x.room(11);
        where(x, "just room", 2, 0, 8);
        x.room(10);
        where(x, "one less", 2, 0, 1);
    }

    private static void honestInTurn() {
        SharedPockets x = Due.with("42o;42o;42o", "h.;h.;o.");
        x.room(8);
        Due.hands(x, "0p20 0p21 1t10 1t01 1p22");
        where(x, "the first cousin puts back", 2, 1, 8);
        where(x, "the second has no room", 2, 0, 1);
        SharedPockets y = Due.with("42o;42o;42o", "h.;o.;o.");
        y.room(8);
        Due.hands(y, "0p20 0p21 1t01 1t00 1p22");
        where(y, "the first thing is put back", 2, 0, 8);
        where(y, "the second has no room", 2, 1, 0);
    }

    private static void holesThenAunt() {
        SharedPockets x = Due.with("50o;61o", "o.;o.");
        Due.hands(x, "1p00 1p11 1t01 1p01");
        x.hole(1, 5);
        x.hole(0, 9);
        x.aunt(1 << 1);
        where(x, "the hole is ahead of the aunt", 1, 0, 9);
        where(x, "the aunt sends home what the hole leaves", 1, 1, 1);
        SharedPockets y = Due.with("50o;61o", "o.;o.");
        Due.hands(y, "1p00 1p11 2t10 2t01");
        y.aunt(1 << 2 | 1 << 3);
        where(y, "taken ahead of the aunt", 2, 0, 1);
        where(y, "she leaves what is not in the pocket", 3, 1, 0);
        SharedPockets small = Due.with("10o", "o.");
        Due.hands(small, "0p00");
        small.hole(4, 1);
        where(small, "an hour without a hole", 3, 0, 8);
        where(small, "the hour with a hole", 4, 0, 9);
        SharedPockets z = Due.with("50o", "o.;o.;o.");
        Due.hands(z, "0p00 1t20 2p20");
        z.aunt(1 << 2);
        where(z, "to its owner, not to who put it in", 2, 0, 0);
    }

    private static void soup() {
        SharedPockets x = Due.with("50s;50o;50f", "o.");
        Due.hands(x, "0p00 0p01 0p02");
        where(x, "soup, first hour", 0, 0, 8);
        where(x, "soup, second hour", 1, 0, 8);
        where(x, "soup, third hour", 2, 0, 9);
        where(x, "no soup", 23, 1, 8);
        where(x, "no soup", 23, 2, 8);
        SharedPockets y = Due.with("50s", "o.");
        Due.hands(y, "0p00 2t00 3p00");
        where(y, "taken in time", 2, 0, 0);
        where(y, "counted anew", 4, 0, 8);
        where(y, "counted anew", 5, 0, 9);
        SharedPockets z = Due.with("50s", "o.");
        Due.hands(z, "0p00 2t00 2p00");
        where(z, "out and in within the hour", 2, 0, 9);
    }

    /** Soup is looked for ahead of the AUNT, so her HOURS do not keep it. */
    private static void soupAndAunt() {
        SharedPockets x = Due.with("50s", "o.");
        x.aunt(0b111);
        Due.hands(x, "0p00 1p00 2p00");
        where(x, "home each hour", 1, 0, 0);
        where(x, "in the pocket at that moment three times", 2, 0, 9);
        SharedPockets y = Due.with("50s", "o.");
        y.aunt(0b100);
        Due.hands(y, "0p00");
        where(y, "spilled ahead of the aunt", 2, 0, 9);
        SharedPockets z = Due.with("50s", "o.");
        z.aunt(0b010);
        Due.hands(z, "0p00 3p00");
        where(z, "home and not put in", 2, 0, 0);
        where(z, "one hour without", 4, 0, 8);
        where(z, "three again", 5, 0, 9);
    }

    private static void promise15() {
        SharedPockets x = Due.with("50o;60o;41o;32o", "o.;o.");
        Due.is("15: has(0, 0)", x.has(0, 0), 0b0011);
        Due.is("15: has(0, 1)", x.has(0, 1), 0b0100);
        Due.hands(x, "1p01 2t11");
        Due.is("15: has(1, 0)", x.has(1, 0), 0b0001);
        Due.is("15: has(2, 1)", x.has(2, 1), 0b0110);
        Due.is("15: has(-1, 0)", x.has(-1, 0), -2);
        Due.is("15: has(24, 0)", x.has(24, 0), -2);
        Due.is("15: has(0, 2)", x.has(0, 2), -2);
        Due.is("15: has(0, -1)", x.has(0, -1), -2);
    }

    private static void promise16() {
        SharedPockets x = Due.with("90o;80o;70o", "o.");
        Due.is("16: load(0)", x.load(0), 0);
        Due.hands(x, "1p00 2p01 3p02 4t00 23p02");
        Due.is("16: load(1)", x.load(1), 9);
        Due.is("16: load(2)", x.load(2), 17);
        Due.is("16: load(3), no room", x.load(3), 17);
        Due.is("16: load(4)", x.load(4), 8);
        Due.is("16: load(23)", x.load(23), 15);
        Due.is("16: load(-1)", x.load(-1), -2);
        Due.is("16: load(24)", x.load(24), -2);
        Due.is("16: load(0) of nothing", new SharedPockets().load(0), 0);
    }

    private static void promise17() {
        SharedPockets x = Due.with("50o;60o", "o0;o1;o.;o7");
        Due.is("17: happy(0)", x.happy(0), 0b0001);
        Due.hands(x, "1p01 2t11 3p00");
        Due.is("17: happy(1)", x.happy(1), 0b0001);
        Due.is("17: happy(2)", x.happy(2), 0b0011);
        Due.is("17: happy(3)", x.happy(3), 0b0010);
        Due.is("17: happy(-1)", x.happy(-1), -2);
        Due.is("17: happy(24)", x.happy(24), -2);
        Due.is("17: happy(0), it wants the thing behind the last", Due.with("50o", "o1;o.").happy(0), 0);
        SharedPockets eight = Due.with("17o", "o.;o.;o.;o.;o.;o.;o.;o0");
        Due.is("17: happy(0) of the eighth", eight.happy(0), 128);
    }

    private static void promise18And19() {
        SharedPockets x = Due.with("50o", "o.");
        Due.is("18: works(0)", x.works(0), -2);
        Due.is("18: works(-1)", x.works(-1), -2);
        Due.is("19: fails() of none", x.fails(), -1);
        Due.hands(x, "3p00");
        Due.is("19: fails(), it works", x.fails(), -1);
        Due.hands(x, "3p00 2t00 2t00");
        Due.is("18: works(0)", x.works(0), 1);
        Due.is("18: works(1)", x.works(1), 0);
        Due.is("18: works(4)", x.works(4), -2);
        Due.is("19: fails(), by HOURS and as told", x.fails(), 2);
        x.back(0);
        x.back(0);
        Due.is("19: fails()", x.fails(), 1);
    }

    private static void promise20() {
        SharedPockets x = Due.with("50s;20o;37o;40o", "o.");
        Due.hands(x, "4p00 1p01 23p03");
        x.hole(9, 3);
        x.hole(23, 9);
        Due.is("20: went(0), soup", x.went(0), 6);
        Due.is("20: went(1), a hole", x.went(1), 9);
        Due.is("20: went(2), lost from the start", x.went(2), -1);
        Due.is("20: went(3), in the last hour", x.went(3), 23);
        x.back(1);
        Due.is("20: went(3), never", x.went(3), -1);
        SharedPockets y = Due.with("10o", "o.");
        Due.hands(y, "0p00");
        y.hole(0, 1);
        Due.is("20: went(0), in the first hour", y.went(0), 0);
        Due.is("20: went(4)", x.went(4), -2);
        Due.is("20: went(-1)", x.went(-1), -2);
    }
}
