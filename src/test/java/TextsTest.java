/** Promises 1 to 7: a new object, the two texts, and what they tell. */
public final class TextsTest {
    private static final String EIGHT_THINGS = "10o;10o;10o;10o;10o;10o;10o;10o";
    private static final String EIGHT_COUSINS = "o.;o.;o.;o.;o.;o.;o.;o.";

    public static void main(String[] args) {
        promise1();
        promise2();
        promise3();
        promise4();
        promise5();
        promise5Empties();
        promise6();
        promise7();
        typedAnew();
        Due.end();
    }

    private static void promise1() {
        SharedPockets x = new SharedPockets();
        for (int what = 0; what <= 8; what++) {
            Due.is("1: count(" + what + ")", x.count(what), 0);
        }
        for (int s = 0; s < 4; s++) {
            Due.is("1: lose(" + s + ")", x.lose(s), -11);
        }
        Due.is("1: fault(0)", x.fault(0), -1);
        Due.is("1: fault(1)", x.fault(1), -1);
        Due.is("1: room(20)", x.room(20), 20);
        Due.is("1: aunt(0)", x.aunt(0), 0);
        Due.is("1: thing(0, 0)", x.thing(0, 0), -2);
        Due.is("1: cousin(0, 0)", x.cousin(0, 0), -2);
        Due.is("1: NONE", SharedPockets.NONE, -1);
        Due.is("1: BAD", SharedPockets.BAD, -2);
        Due.is("1: NOT", SharedPockets.NOT, -3);
        Due.is("1: FULL", SharedPockets.FULL, -4);
    }

    private static void promise2() {
        SharedPockets x = new SharedPockets();
        Due.is("2: type(0, 0)", x.type(0, 0), 1);
        Due.is("2: type(0, 255)", x.type(0, 255), 2);
        Due.is("2: type(1, 7)", x.type(1, 7), 1);
        Due.is("2: type(-1, 65)", x.type(-1, 65), -2);
        Due.is("2: type(2, 65)", x.type(2, 65), -2);
        Due.is("2: type(0, -1)", x.type(0, -1), -2);
        Due.is("2: type(0, 256)", x.type(0, 256), -2);
        Due.is("2: count(2)", x.count(2), 2);
        Due.is("2: count(3)", x.count(3), 1);
        for (int n = 3; n <= 31; n++) {
            Due.is("2: type(0, 65)", x.type(0, 65), n);
        }
        Due.is("2: type(0, 65) full", x.type(0, 65), -4);
        Due.is("2: type(0, 256) full", x.type(0, 256), -2);
        for (int n = 2; n <= 23; n++) {
            Due.is("2: type(1, 65)", x.type(1, 65), n);
        }
        Due.is("2: type(1, 65) full", x.type(1, 65), -4);
        Due.is("2: count(2) full", x.count(2), 31);
        Due.is("2: count(3) full", x.count(3), 23);
    }

    private static void promise3() {
        SharedPockets x = Due.with("50o;3", "o.");
        Due.is("3: wipe(2)", x.wipe(2), -2);
        Due.is("3: wipe(-1)", x.wipe(-1), -2);
        Due.is("3: wipe(0)", x.wipe(0), 5);
        Due.is("3: wipe(0) again", x.wipe(0), 0);
        Due.is("3: count(3)", x.count(3), 2);
        Due.is("3: wipe(1)", x.wipe(1), 2);
        Due.is("3: count(1)", x.count(1), 0);
        Due.type(x, 0, "91f");
        Due.is("3: thing(0, 0) typed anew", x.thing(0, 0), 9);
    }

    private static void promise4() {
        SharedPockets x = Due.with("50o;", "o");
        Due.is("4: undo(2)", x.undo(2), -2);
        Due.is("4: undo(-1)", x.undo(-1), -2);
        Due.is("4: count(0) before", x.count(0), 0);
        Due.is("4: undo(0)", x.undo(0), 3);
        Due.is("4: count(0)", x.count(0), 1);
        Due.is("4: undo(1)", x.undo(1), 0);
        Due.is("4: undo(1) empty", x.undo(1), -3);
        Due.is("4: undo(0) again", x.undo(0), 2);
        Due.is("4: type(0, f)", x.type(0, 'f'), 3);
        Due.is("4: thing(0, 2)", x.thing(0, 2), 2);
    }

    private static void promise5() {
        Due.is("5: fault(-1)", new SharedPockets().fault(-1), -2);
        Due.is("5: fault(2)", new SharedPockets().fault(2), -2);
        fault(0, "", -1);
        fault(0, "5", 1);
        fault(0, "50", 2);
        fault(0, "50o", -1);
        fault(0, "97s", -1);
        fault(0, "11f", -1);
        fault(0, "00o", 0);
        fault(0, ";", 0);
        fault(0, "58o", 1);
        fault(0, "50h", 2);
        fault(0, "50O", 2);
        fault(0, "50o,", 3);
        fault(0, "50oo", 3);
        fault(0, "50o;", 4);
        fault(0, "50o;;", 4);
        fault(0, "50o;0", 4);
        fault(0, "50o;1", 5);
        fault(0, "50o;19s", 5);
        fault(0, "x0o;19s", 0);
        fault(0, "50" + (char) 239, 2);
        fault(0, EIGHT_THINGS, -1);
        fault(0, EIGHT_THINGS.substring(0, 30), 30);
        fault(1, "", -1);
        fault(1, "o", 1);
        fault(1, "h", 1);
        fault(1, "o.", -1);
        fault(1, "h7", -1);
        fault(1, "o0", -1);
        fault(1, "o8", 1);
        fault(1, "s1", 0);
        fault(1, "1o", 0);
        fault(1, "o.o", 2);
        fault(1, "o.;", 3);
        fault(1, "o.;h", 4);
        fault(1, "o.;h;", 4);
        fault(1, EIGHT_COUSINS, -1);
        fault(1, EIGHT_COUSINS.substring(0, 21), 21);
    }

    private static void fault(int text, String signs, int want) {
        SharedPockets x = new SharedPockets();
        Due.type(x, text, signs);
        Due.is("5: fault(" + text + ") of " + signs, x.fault(text), want);
    }

    /** With a FAULT a text is as if it was empty, whatever stands ahead of the FAULT. */
    private static void promise5Empties() {
        SharedPockets x = Due.with("50o;31s", "o.;h0");
        Due.is("5: count(0)", x.count(0), 2);
        x.type(0, 'x');
        Due.is("5: count(0) by a fault", x.count(0), 0);
        Due.is("5: thing(0, 0) by a fault", x.thing(0, 0), -2);
        Due.is("5: count(2) by a fault", x.count(2), 8);
        Due.is("5: count(1) of the other", x.count(1), 2);
        x.undo(0);
        Due.is("5: count(0) mended", x.count(0), 2);
        x.type(1, ';');
        Due.is("5: count(1) not ended", x.count(1), 0);
        Due.is("5: where(0, 0) by a fault", x.where(0, 0), 9);
        Due.is("5: eight", Due.with(EIGHT_THINGS, EIGHT_COUSINS).count(0), 8);
        Due.is("5: eight", Due.with(EIGHT_THINGS, EIGHT_COUSINS).count(1), 8);
    }

    private static void promise6() {
        SharedPockets x = Due.with("93f;17s;50o", "");
        int[][] want = {{9, 3, 2}, {1, 7, 1}, {5, 0, 0}};
        for (int t = 0; t < 3; t++) {
            for (int what = 0; what < 3; what++) {
                Due.is("6: thing(" + t + ", " + what + ")", x.thing(t, what), want[t][what]);
            }
        }
        Due.is("6: thing(3, 0)", x.thing(3, 0), -2);
        Due.is("6: thing(-1, 0)", x.thing(-1, 0), -2);
        Due.is("6: thing(0, 3)", x.thing(0, 3), -2);
        Due.is("6: thing(0, -1)", x.thing(0, -1), -2);
    }

    /** Nothing of an earlier text stays behind when another is typed. */
    private static void typedAnew() {
        SharedPockets x = Due.with("10s;20f", "h.;o.");
        Due.hands(x, "0p00 1t10 4p00");
        Due.is("3: where(23, 0), soup", x.where(23, 0), 1);
        x.wipe(0);
        Due.type(x, 0, "90o;95o");
        x.wipe(1);
        Due.type(x, 1, "o.;h.");
        Due.is("3: where(2, 0), put back now", x.where(2, 0), 8);
        x.hole(3, 1);
        Due.is("3: where(23, 0), no soup and larger", x.where(23, 0), 8);
        Due.is("3: cousin(0, 0)", x.cousin(0, 0), 0);
        Due.is("3: cousin(1, 0)", x.cousin(1, 0), 1);
        x.wipe(1);
        Due.type(x, 1, "o.;o.");
        Due.is("3: where(2, 0), nobody is honest", x.where(2, 0), 1);
        Due.is("3: thing(1, 1)", x.thing(1, 1), 5);
    }

    private static void promise7() {
        SharedPockets x = Due.with("", "h7;o.;o0");
        int[][] want = {{1, 7}, {0, -1}, {0, 0}};
        for (int c = 0; c < 3; c++) {
            for (int what = 0; what < 2; what++) {
                Due.is("7: cousin(" + c + ", " + what + ")", x.cousin(c, what), want[c][what]);
            }
        }
        Due.is("7: cousin(3, 0)", x.cousin(3, 0), -2);
        Due.is("7: cousin(-1, 0)", x.cousin(-1, 0), -2);
        Due.is("7: cousin(0, 2)", x.cousin(0, 2), -2);
        Due.is("7: cousin(0, -1)", x.cousin(0, -1), -2);
    }
}
