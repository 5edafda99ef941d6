import java.io.IOException;

/** Sentences that name a boundary: promises 1 to 7, the two texts. */
public final class EdgesOfTextsTest {
    private static final int NONE = -1, BAD = -2, NOT = -3, FULL = -4;
    private static final String FIRST_THING = "a figure, its SIZE (1 to 9), a figure 0 to 7, its OWNER (a COUSIN), and a letter: o (any), s (soup), f (a frog).";
    private static final String FIRST_COUSIN = "o (any) or h (honest), and a figure 0 to 7 or ., the THING that it WANTS (none).";

    public static void main(String[] args) throws IOException {
        Edge.open(args);
        Edge.says(1, "No THINGS, nobody; all SHEETS are LOST.", EdgesOfTextsTest::newObject);
        Edge.says(1, "(1 to 72; 20 at first)", EdgesOfTextsTest::newRoom);
        Edge.says(1, "if this is one of the AUNT's HOURS (none at first)", EdgesOfTextsTest::newAunt);
        Edge.says(1, "An object is used for at most 512 calls after it has been made", EdgesOfTextsTest::lastCall);
        Edge.says(2, "A byte (0 to 255) comes behind a text: how many. BAD; FULL.", EdgesOfTextsTest::typedBytes);
        Edge.says(2, "THINGS are a text of up to 31 bytes (text 0)", EdgesOfTextsTest::thirtyOneBytes);
        Edge.says(2, "COUSINS are a text of up to 23 bytes (text 1)", EdgesOfTextsTest::twentyThreeBytes);
        Edge.says(2, "Refusals, the first that fits, in the order told at each act", EdgesOfTextsTest::typeBadAheadOfFull);
        Edge.says(3, "A text is empty: how many bytes it had. BAD.", EdgesOfTextsTest::wiped);
        Edge.says(4, "The last byte of a text is undone: how many are left. BAD; NOT: it is empty.", EdgesOfTextsTest::undone);
        Edge.says(5, "The FAULT of a text; NONE. BAD.", EdgesOfTextsTest::faultOfText);
        Edge.says(5, FIRST_THING, EdgesOfTextsTest::everyByteOfThing);
        Edge.says(5, FIRST_COUSIN, EdgesOfTextsTest::everyByteOfCousin);
        Edge.says(5, "with ; between them", EdgesOfTextsTest::betweenThem);
        Edge.says(5, "the place of the first byte with which it cannot go on", EdgesOfTextsTest::firstOfTwoFaults);
        Edge.says(5, "(an empty one is well; of one that is not ended, its end)", EdgesOfTextsTest::emptyAndNotEnded);
        Edge.says(5, "here also of the first byte of a ninth", EdgesOfTextsTest::noNinth);
        Edge.says(5, "With a FAULT a text is as if it was empty.", EdgesOfTextsTest::asIfEmpty);
        Edge.says(6, "SIZE (what = 0), OWNER (1), its kind (2: 0 o, 1 s, 2 f) of a THING. BAD.", EdgesOfTextsTest::askedThing);
        Edge.says(6, "8 at most (0 on)", EdgesOfTextsTest::eightThings);
        Edge.says(7, "Whether it is honest (what = 0: 1, 0), what it WANTS (1; NONE) of a COUSIN. BAD.", EdgesOfTextsTest::askedCousin);
        Edge.says(7, "COUSINS are a text of up to 23 bytes (text 1), 8 at most (0 on)", EdgesOfTextsTest::eightCousins);
        Edge.close(1, 7);
    }

    private static void newObject() {
        for (int what = 0; what <= 8; what++) {
            Due.is("count(" + what + ")", new SharedPockets().count(what), 0);
        }
        Due.is("thing(0, 0)", new SharedPockets().thing(0, 0), BAD);
        Due.is("cousin(0, 0)", new SharedPockets().cousin(0, 0), BAD);
        for (int s = 0; s < 4; s++) {
            Due.is("lose(" + s + ")", new SharedPockets().lose(s), Edge.NULL);
            Due.is("read(" + s + ")", new SharedPockets().read(s), Edge.NULL);
        }
    }

    private static void newRoom() {
        Due.is("room(72)", new SharedPockets().room(72), 20);
        Due.is("load(0), twenty", Due.with("90o;90o;20o", "o.", "0p00 0p01 0p02").load(0), 20);
        Due.is("load(0), twenty-one", Due.with("90o;90o;30o", "o.", "0p00 0p01 0p02").load(0), 18);
    }

    private static void newAunt() {
        Due.is("aunt(0)", new SharedPockets().aunt(0), 0);
        SharedPockets x = Due.with("50o", "o.", "0p00");
        for (int h = 0; h < 24; h++) {
            Due.is("where(" + h + ", 0)", x.where(h, 0), 8);
        }
    }

    private static void lastCall() {
        SharedPockets x = Due.with("50o", "o.", "0p00");
        for (int call = 7; call <= 512; call++) {
            int got = call % 3 == 0 ? x.load(0) : call % 3 == 1 ? x.room(20) / 4 : x.count(2) + 2;
            Due.is("call " + call, got, 5);
        }
    }

    private static void typedBytes() {
        Edge.bounds("type(0, v) of an empty one", 0, 255, Edge::empty, (x, v) -> x.type(0, v));
        Edge.bounds("type(1, v) of an empty one", 0, 255, Edge::empty, (x, v) -> x.type(1, v));
        Edge.bounds("type(0, v) of a busy one", 0, 255, Edge::busy, (x, v) -> x.type(0, v));
        Edge.bounds("type(1, v) of a busy one", 0, 255, Edge::busy, (x, v) -> x.type(1, v));
        Edge.boundsAnywhere("type(v, 59)", 0, 1, (x, v) -> x.type(v, 59));
        for (int text = 0; text < 2; text++) {
            SharedPockets x = new SharedPockets();
            Due.is("type(" + text + ", 0)", x.type(text, 0), 1);
            Due.is("type(" + text + ", 255)", x.type(text, 255), 2);
            Due.is("count(2)", x.count(2), text == 0 ? 2 : 0);
            Due.is("count(3)", x.count(3), text == 1 ? 2 : 0);
        }
    }

    private static void thirtyOneBytes() {
        upTo(0, 31);
        Edge.refused("type(0, 59) of a full one", FULL, Edge::full, x -> x.type(0, 59));
        Edge.refused("type(0, 0) of noughts", FULL, x -> typeNoughts(x, 0, 31), x -> x.type(0, 0));
    }

    private static void twentyThreeBytes() {
        upTo(1, 23);
        Edge.refused("type(1, 59) of a full one", FULL, Edge::full, x -> x.type(1, 59));
        Edge.refused("type(1, 0) of noughts", FULL, x -> typeNoughts(x, 1, 23), x -> x.type(1, 0));
    }

    private static void upTo(int text, int most) {
        SharedPockets x = new SharedPockets();
        for (int n = 1; n <= most; n++) {
            Due.is("type(" + text + ", 111), byte " + n, x.type(text, 111), n);
        }
        Due.is("type(" + text + ", 111), one more", x.type(text, 111), FULL);
        Due.is("type(" + text + ", 111), once more", x.type(text, 111), FULL);
        Due.is("count(" + (2 + text) + ")", x.count(2 + text), most);
        x.undo(text);
        Due.is("type(" + text + ", 111), one was undone", x.type(text, 111), most);
    }

    private static void typeNoughts(SharedPockets x, int text, int many) {
        for (int n = 0; n < many; n++) {
            x.type(text, 0);
        }
    }

    private static void typeBadAheadOfFull() {
        for (int text = 0; text < 2; text++) {
            int t = text;
            Edge.refused("type(" + t + ", -1) of a full one", BAD, Edge::full, x -> x.type(t, -1));
            Edge.refused("type(" + t + ", 256) of a full one", BAD, Edge::full, x -> x.type(t, 256));
        }
        Edge.refused("type(-1, 59) of a full one", BAD, Edge::full, x -> x.type(-1, 59));
        Edge.refused("type(2, 59) of a full one", BAD, Edge::full, x -> x.type(2, 59));
    }

    private static void wiped() {
        Edge.boundsAnywhere("wipe(v)", 0, 1, (x, v) -> x.wipe(v));
        SharedPockets full = Edge.made(Edge::full);
        Due.is("wipe(0), full", full.wipe(0), 31);
        Due.is("wipe(0), empty", full.wipe(0), 0);
        Due.is("fault(0), empty", full.fault(0), NONE);
        Due.is("count(3), the other", full.count(3), 23);
        Due.is("wipe(1), full", full.wipe(1), 23);
        Due.is("wipe(1), empty", full.wipe(1), 0);
        Due.is("type(0, 49)", full.type(0, 49), 1);
        Due.is("wipe(0), one byte", full.wipe(0), 1);
        SharedPockets wrong = Due.with("50x;", "o");
        Due.is("wipe(0), with a FAULT", wrong.wipe(0), 4);
        Due.is("wipe(1), not ended", wrong.wipe(1), 1);
    }

    private static void undone() {
        Edge.bounds("undo(v) of a busy one", 0, 1, Edge::busy, (x, v) -> x.undo(v));
        Edge.bounds("undo(v) of a full one", 0, 1, Edge::full, (x, v) -> x.undo(v));
        Edge.bounds("undo(v) of an empty one", 0, 1, Edge::empty, (x, v) -> x.undo(v));
        Edge.refused("undo(0), empty", NOT, Edge::empty, x -> x.undo(0));
        Edge.refused("undo(1), empty", NOT, Edge::empty, x -> x.undo(1));
        Edge.refused("undo(0), it alone is empty", NOT, x -> Due.type(x, 1, "o.;h0"), x -> x.undo(0));
        Edge.refused("undo(1), it alone is empty", NOT, x -> Due.type(x, 0, "50o"), x -> x.undo(1));
        SharedPockets full = Edge.made(Edge::full);
        for (int left = 30; left >= 0; left--) {
            Due.is("undo(0)", full.undo(0), left);
        }
        Due.is("undo(0), empty by undo()", full.undo(0), NOT);
        for (int left = 22; left >= 0; left--) {
            Due.is("undo(1)", full.undo(1), left);
        }
        Due.is("undo(1), empty by undo()", full.undo(1), NOT);
        SharedPockets wiped = Edge.made(Edge::busy);
        wiped.wipe(0);
        Due.is("undo(0), empty by wipe()", wiped.undo(0), NOT);
    }

    private static void faultOfText() {
        Edge.boundsAnywhere("fault(v)", 0, 1, (x, v) -> x.fault(v));
        SharedPockets x = Due.with("5", "o.");
        Due.is("fault(0)", x.fault(0), 1);
        Due.is("fault(1), the other is well", x.fault(1), NONE);
    }

    private static int faultOf(int text, String signs) {
        SharedPockets x = new SharedPockets();
        Due.type(x, text, signs);
        return x.fault(text);
    }

    /** Behind such a beginning only these signs go on; with them the text is well, or its end is its FAULT. */
    private static void everyByte(int text, String begun, String signs, boolean wellThen) {
        int place = begun.length();
        for (int b = 0; b < 256; b++) {
            int goesOn = wellThen ? NONE : place + 1;
            int want = signs.indexOf((char) b) >= 0 ? goesOn : place;
            Due.is("fault(" + text + ") of " + begun + " and byte " + b, faultOf(text, begun + (char) b), want);
        }
    }

    private static void everyByteOfThing() {
        for (String ahead : new String[] {"", "17f;", Edge.EIGHT_THINGS.substring(0, 28)}) {
            everyByte(0, ahead, "123456789", false);
            everyByte(0, ahead + "1", "01234567", false);
            everyByte(0, ahead + "90", "osf", true);
        }
        Due.is("thing(0, 0), the least", Due.with("10o", "").thing(0, 0), 1);
        Due.is("thing(0, 0), the greatest", Due.with("90o", "").thing(0, 0), 9);
        Due.is("thing(0, 1), the first", Due.with("10o", "").thing(0, 1), 0);
        Due.is("thing(0, 1), the last", Due.with("17o", "").thing(0, 1), 7);
    }

    private static void everyByteOfCousin() {
        for (String ahead : new String[] {"", "h7;", Edge.EIGHT_COUSINS.substring(0, 21)}) {
            everyByte(1, ahead, "oh", false);
            everyByte(1, ahead + "h", "01234567.", true);
        }
        Due.is("cousin(0, 1), the first", Due.with("", "o0").cousin(0, 1), 0);
        Due.is("cousin(0, 1), the last", Due.with("", "o7").cousin(0, 1), 7);
        Due.is("cousin(0, 1), none", Due.with("", "o.").cousin(0, 1), NONE);
    }

    private static void betweenThem() {
        everyByte(0, "90o", ";", false);
        everyByte(0, "90o;81s", ";", false);
        everyByte(1, "o.", ";", false);
        everyByte(1, "o.;h1", ";", false);
        Due.is("fault(0), ahead of the first", faultOf(0, ";90o"), 0);
        Due.is("fault(0), two of them", faultOf(0, "90o;;81s"), 4);
        Due.is("fault(0), behind the last", faultOf(0, "90o;81s;"), 8);
        Due.is("fault(1), ahead of the first", faultOf(1, ";o."), 0);
        Due.is("fault(1), two of them", faultOf(1, "o.;;h1"), 3);
        Due.is("fault(1), behind the last", faultOf(1, "o.;h1;"), 6);
    }

    private static void firstOfTwoFaults() {
        Due.is("fault(0), 0 and 1", faultOf(0, "08o"), 0);
        Due.is("fault(0), 1 and 2", faultOf(0, "18x"), 1);
        Due.is("fault(0), 2 and 3", faultOf(0, "10x,"), 2);
        Due.is("fault(0), 3 and its end", faultOf(0, "10o,1"), 3);
        Due.is("fault(0), 6 and its end", faultOf(0, "10o;17x;"), 6);
        Due.is("fault(1), 0 and 1", faultOf(1, "x8"), 0);
        Due.is("fault(1), 1 and 2", faultOf(1, "o8,"), 1);
        Due.is("fault(1), 4 and its end", faultOf(1, "o.;h8;"), 4);
    }

    private static void emptyAndNotEnded() {
        Due.is("fault(0), empty", faultOf(0, ""), NONE);
        Due.is("fault(1), empty", faultOf(1, ""), NONE);
        for (int n = 1; n <= 31; n++) {
            Due.is("fault(0) of " + n + " bytes", faultOf(0, Edge.EIGHT_THINGS.substring(0, n)), n % 4 == 3 ? NONE : n);
        }
        for (int n = 1; n <= 23; n++) {
            Due.is("fault(1) of " + n + " bytes", faultOf(1, Edge.EIGHT_COUSINS.substring(0, n)), n % 3 == 2 ? NONE : n);
        }
    }

    /** Eight and no more have room in a text, so a ninth is FULL ahead of its first byte. */
    private static void noNinth() {
        SharedPockets x = Edge.made(Edge::full);
        Due.is("type(0, 59)", x.type(0, 59), FULL);
        Due.is("type(0, 49)", x.type(0, 49), FULL);
        Due.is("fault(0)", x.fault(0), NONE);
        Due.is("count(0)", x.count(0), 8);
        Due.is("type(1, 59)", x.type(1, 59), FULL);
        Due.is("type(1, 111)", x.type(1, 111), FULL);
        Due.is("fault(1)", x.fault(1), NONE);
        Due.is("count(1)", x.count(1), 8);
    }

    private static void asIfEmpty() {
        for (String wrong : new String[] {"5", "50o;", "50o;31", "50o;31x", "50o;31s;", "x", "50o;31s;22f;" + (char) 0}) {
            SharedPockets x = Due.with(wrong, "o0;h1", "0p00");
            Due.is("count(0) of " + wrong, x.count(0), 0);
            Due.is("count(1), the other, of " + wrong, x.count(1), 2);
            Due.is("count(2) of " + wrong, x.count(2), wrong.length());
            Due.is("thing(0, 0) of " + wrong, x.thing(0, 0), BAD);
            Due.is("where(0, 0) of " + wrong, x.where(0, 0), BAD);
            Due.is("has(0, 0) of " + wrong, x.has(0, 0), 0);
            Due.is("works(0) of " + wrong, x.works(0), 0);
            Due.is("cousin(0, 1), it WANTS still, of " + wrong, x.cousin(0, 1), 0);
        }
        for (String wrong : new String[] {"o", "o.;", "o.;h", "o.;h8", "o.;h0;", "x", "o.;h0;" + (char) 255}) {
            SharedPockets x = Due.with("50o;31s", wrong, "0p00");
            Due.is("count(1) of " + wrong, x.count(1), 0);
            Due.is("count(0), the other, of " + wrong, x.count(0), 2);
            Due.is("count(3) of " + wrong, x.count(3), wrong.length());
            Due.is("cousin(0, 0) of " + wrong, x.cousin(0, 0), BAD);
            Due.is("has(0, 0) of " + wrong, x.has(0, 0), BAD);
            Due.is("where(0, 0) of " + wrong, x.where(0, 0), 9);
            Due.is("works(0) of " + wrong, x.works(0), 0);
        }
    }

    private static void askedThing() {
        Edge.bounds("thing(v, 0) of three", 0, 2, Edge::busy, (x, v) -> x.thing(v, 0));
        Edge.bounds("thing(v, 2) of eight", 0, 7, Edge::full, (x, v) -> x.thing(v, 2));
        Edge.bounds("thing(0, v)", 0, 2, Edge::busy, (x, v) -> x.thing(0, v));
        Edge.bounds("thing(7, v)", 0, 2, Edge::full, (x, v) -> x.thing(7, v));
        Edge.refused("thing(0, 0) of none", BAD, Edge::empty, x -> x.thing(0, 0));
        Edge.refused("thing(3, 3), both wrong", BAD, Edge::busy, x -> x.thing(3, 3));
        Due.is("thing(0, 2), o", Due.with("10o", "").thing(0, 2), 0);
        Due.is("thing(0, 2), s", Due.with("10s", "").thing(0, 2), 1);
        Due.is("thing(0, 2), f", Due.with("10f", "").thing(0, 2), 2);
    }

    private static void eightThings() {
        SharedPockets x = Edge.made(Edge::full);
        int[] kinds = {0, 1, 2, 0, 1, 2, 0, 1};
        Due.is("count(0)", x.count(0), 8);
        for (int t = 0; t < 8; t++) {
            Due.is("thing(" + t + ", 0)", x.thing(t, 0), 9 - t);
            Due.is("thing(" + t + ", 1)", x.thing(t, 1), t);
            Due.is("thing(" + t + ", 2)", x.thing(t, 2), kinds[t]);
        }
        for (int many = 1; many <= 8; many++) {
            SharedPockets some = Due.with(Edge.EIGHT_THINGS.substring(0, 4 * many - 1), "");
            Due.is("count(0) of " + many, some.count(0), many);
            Due.is("thing(" + (many - 1) + ", 0), the last of them", some.thing(many - 1, 0), 10 - many);
            Due.is("thing(" + many + ", 0), behind the last", some.thing(many, 0), BAD);
        }
    }

    private static void askedCousin() {
        Edge.bounds("cousin(v, 0) of three", 0, 2, Edge::busy, (x, v) -> x.cousin(v, 0));
        Edge.bounds("cousin(v, 0) of eight", 0, 7, Edge::full, (x, v) -> x.cousin(v, 0));
        Edge.bounds("cousin(0, v)", 0, 1, Edge::busy, (x, v) -> x.cousin(0, v));
        Edge.bounds("cousin(7, v)", 0, 1, Edge::full, (x, v) -> x.cousin(7, v));
        Edge.refused("cousin(0, 0) of none", BAD, Edge::empty, x -> x.cousin(0, 0));
        Edge.refused("cousin(3, 2), both wrong", BAD, Edge::busy, x -> x.cousin(3, 2));
        Due.is("cousin(0, 0), o", Due.with("", "o.").cousin(0, 0), 0);
        Due.is("cousin(0, 0), h", Due.with("", "h.").cousin(0, 0), 1);
        Due.is("cousin(0, 1), a THING that there is not", Due.with("", "h5").cousin(0, 1), 5);
    }

    private static void eightCousins() {
        SharedPockets x = Edge.made(Edge::full);
        int[] wants = {0, 1, NONE, 3, 4, NONE, 6, 7};
        Due.is("count(1)", x.count(1), 8);
        for (int c = 0; c < 8; c++) {
            Due.is("cousin(" + c + ", 0)", x.cousin(c, 0), c % 2);
            Due.is("cousin(" + c + ", 1)", x.cousin(c, 1), wants[c]);
        }
        for (int many = 1; many <= 8; many++) {
            SharedPockets some = Due.with("", Edge.EIGHT_COUSINS.substring(0, 3 * many - 1));
            Due.is("count(1) of " + many, some.count(1), many);
            Due.is("cousin(" + (many - 1) + ", 0), the last of them", some.cousin(many - 1, 0), (many - 1) % 2);
            Due.is("cousin(" + many + ", 0), behind the last", some.cousin(many, 0), BAD);
        }
    }
}
