/** Promises 8 to 13: ROOM, the AUNT's HOURS, HANDS, HOLES, and how they are undone or read. */
public final class TellingTest {
    public static void main(String[] args) {
        promise8();
        promise9();
        promise10();
        promise11();
        promise12();
        promise13();
        promise13Ends();
        Due.end();
    }

    private static void promise8() {
        SharedPockets x = Due.with("50o;40o", "o.");
        Due.is("8: room(0)", x.room(0), -2);
        Due.is("8: room(73)", x.room(73), -2);
        Due.is("8: room(72)", x.room(72), 20);
        Due.is("8: room(1)", x.room(1), 72);
        Due.is("8: room(9)", x.room(9), 1);
        Due.hands(x, "0p00 1p01");
        Due.is("8: load(1), just so much room", x.load(1), 9);
        Due.is("8: room(8)", x.room(8), 9);
        Due.is("8: load(1), one less", x.load(1), 5);
        Due.is("8: works(1), one less", x.works(1), 0);
    }

    private static void promise9() {
        SharedPockets x = Due.with("50o", "o.;o.");
        Due.is("9: aunt(-1)", x.aunt(-1), -2);
        Due.is("9: aunt(1 << 24)", x.aunt(1 << 24), -2);
        Due.is("9: aunt(all)", x.aunt(0xFFFFFF), 0);
        Due.is("9: aunt(2)", x.aunt(2), 0xFFFFFF);
        Due.hands(x, "0p00");
        Due.is("9: where(0, 0)", x.where(0, 0), 8);
        Due.is("9: where(1, 0)", x.where(1, 0), 0);
        Due.is("9: aunt(0)", x.aunt(0), 2);
        Due.is("9: where(1, 0) without her", x.where(1, 0), 8);
        x.aunt(1 << 23);
        Due.is("9: where(22, 0)", x.where(22, 0), 8);
        Due.is("9: where(23, 0)", x.where(23, 0), 0);
    }

    private static void promise10() {
        SharedPockets x = new SharedPockets();
        int[][] bad = {{-1, 0, 0, 0}, {24, 0, 0, 0}, {0, -1, 0, 0}, {0, 8, 0, 0}, {0, 0, -1, 0}, {0, 0, 8, 0}, {0, 0, 0, -1}, {0, 0, 0, 2}};
        for (int[] b : bad) {
            Due.is("10: a wrong hand", x.hand(b[0], b[1], b[2], b[3]), -2);
        }
        Due.is("10: count(4)", x.count(4), 0);
        Due.is("10: hand(23, 7, 7, 1)", x.hand(23, 7, 7, 1), 1);
        Due.is("10: hand(0, 0, 0, 0)", x.hand(0, 0, 0, 0), 2);
        for (int n = 3; n <= 20; n++) {
            Due.is("10: hand(5, 1, 1, 0)", x.hand(5, 1, 1, 0), n);
        }
        Due.is("10: hand(5, 1, 1, 0) full", x.hand(5, 1, 1, 0), -4);
        Due.is("10: hand(24, 1, 1, 0) full", x.hand(24, 1, 1, 0), -2);
        Due.is("10: count(4) full", x.count(4), 20);
    }

    private static void promise11() {
        SharedPockets x = Due.with("30o;40o;50o", "o.");
        Due.hands(x, "0p00 0p01 0p02");
        int[][] bad = {{-1, 1}, {24, 1}, {0, 0}, {0, 10}};
        for (int[] b : bad) {
            Due.is("11: a wrong hole", x.hole(b[0], b[1]), -2);
        }
        Due.is("11: count(6)", x.count(6), 0);
        Due.is("11: hole(2, 4)", x.hole(2, 4), 1);
        Due.is("11: load(1)", x.load(1), 12);
        Due.is("11: where(2, 0), less", x.where(2, 0), 9);
        Due.is("11: where(2, 1), of that size", x.where(2, 1), 9);
        Due.is("11: where(2, 2), more", x.where(2, 2), 8);
        Due.is("11: hole(23, 9)", x.hole(23, 9), 2);
        Due.is("11: where(23, 2)", x.where(23, 2), 9);
        Due.is("11: hole(0, 1)", x.hole(0, 1), 3);
        Due.is("11: hole(0, 1)", x.hole(0, 1), 4);
        Due.is("11: hole(1, 3)", x.hole(1, 3), 5);
        Due.is("11: hole(1, 1), a smaller one behind it", x.hole(1, 1), 6);
        Due.is("11: where(1, 0)", x.where(1, 0), 9);
        Due.is("11: hole(0, 1) full", x.hole(0, 1), -4);
        Due.is("11: hole(0, 0) full", x.hole(0, 0), -2);
        Due.is("11: count(6) full", x.count(6), 6);
    }

    private static void promise12() {
        SharedPockets x = Due.with("50o", "o.;o.");
        Due.is("12: back(-1)", x.back(-1), -2);
        Due.is("12: back(2)", x.back(2), -2);
        Due.is("12: back(0) none", x.back(0), -3);
        Due.is("12: back(1) none", x.back(1), -3);
        Due.hands(x, "0p00 1t10");
        x.hole(0, 9);
        Due.is("12: where(1, 0)", x.where(1, 0), 9);
        Due.is("12: back(1)", x.back(1), 0);
        Due.is("12: back(1) none left", x.back(1), -3);
        Due.is("12: where(1, 0) no hole", x.where(1, 0), 1);
        x.hole(5, 1);
        x.hole(5, 2);
        x.hole(5, 3);
        Due.is("12: back(1) of three", x.back(1), 2);
        Due.is("12: count(6)", x.count(6), 2);
        Due.is("12: back(0)", x.back(0), 1);
        Due.is("12: where(1, 0) no second hand", x.where(1, 0), 8);
        Due.is("12: back(0) again", x.back(0), 0);
        Due.is("12: where(1, 0) no hand", x.where(1, 0), 0);
        Due.is("12: back(0) none left", x.back(0), -3);
    }

    private static void promise13() {
        SharedPockets x = Due.with("50o", "o.;o.");
        Due.is("13: read(-1)", x.read(-1), -2);
        Due.is("13: read(4)", x.read(4), -2);
        Due.is("13: count(8) before", x.count(8), 0);
        Due.is("13: read(2) lost", x.read(2), -11);
        Due.is("13: count(8)", x.count(8), 1);
        x.hand(0, 0, 0, 0);
        Due.is("13: where(1, 0) before", x.where(1, 0), 8);
        Due.fill(x, 2, 2, 1, 1, 0, 1, 2, 1, 0, 0, 3, 0, 0);
        Due.is("13: read(2), two whole ones and three items", x.read(2), 2);
        Due.is("13: count(4), behind the one told", x.count(4), 3);
        Due.is("13: where(0, 0)", x.where(0, 0), 8);
        Due.is("13: where(3, 0)", x.where(3, 0), 8);
        Due.is("13: where(1, 0)", x.where(1, 0), 1);
        Due.is("13: where(2, 0)", x.where(2, 0), 8);
        Due.is("13: read(2) again", x.read(2), 2);
        Due.is("13: count(4) again", x.count(4), 5);
        x.sheet(0, 0, 0);
        Due.is("13: read(0) of no items", x.read(0), 0);
        x.sheet(0, 0, 3);
        Due.is("13: read(0) of three items", x.read(0), 0);
    }

    /** It ends at the first that may not be, though a later one might. */
    private static void promise13Ends() {
        SharedPockets x = new SharedPockets();
        Due.fill(x, 1, 1, 1, 0, 0, 0, 24, 0, 0, 0, 2, 0, 0, 0);
        Due.is("13: read(1), the second is wrong", x.read(1), 1);
        Due.is("13: count(4)", x.count(4), 1);
        Due.fill(x, 1, 0, 1, 0, 0, 2);
        Due.is("13: read(1), the first is wrong", x.read(1), 0);
        x.sheet(3, 1, 60);
        Due.is("13: read(3), sixty noughts", x.read(3), 15);
        Due.is("13: read(3), as there is room for HANDS", x.read(3), 4);
        Due.is("13: count(4) full", x.count(4), 20);
        Due.is("13: read(3) full", x.read(3), 0);
    }
}
