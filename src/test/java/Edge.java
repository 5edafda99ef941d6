import java.io.IOException;
import java.nio.file.Files;
import java.nio.file.Path;
import java.util.List;
import java.util.Set;
import java.util.TreeSet;

/** Sentences of the document that name a boundary, each with a test of its own, and what such tests share. */
final class Edge {
    static final int NULL = -11, INDEX = -12, CAST = -13, STORE = -14, SIZE = -15;
    static final int LEAST = Integer.MIN_VALUE;
    static final int MOST = Integer.MAX_VALUE;
    static final int ALL_HOURS = 0xFFFFFF;

    static final String EIGHT_THINGS = "90o;81s;72f;63o;54s;45f;36o;27s";
    static final String EIGHT_COUSINS = "o0;h1;o.;h3;o4;h.;o6;h7";

    /** What is told ahead of the call that is looked at. */
    interface State {
        void tell(SharedPockets x);
    }

    interface Call {
        long on(SharedPockets x);
    }

    interface Ask {
        long on(SharedPockets x, int v);
    }

    private static String document = "";
    private static final Set<Integer> named = new TreeSet<>();

    private Edge() { }

    /** The document is looked at so that no sentence here is another than it has. */
    static void open(String[] args) throws IOException {
        Path path = Path.of(args.length > 0 ? args[0] : ".", "..", "shared", "DOC.md");
        if (Files.exists(path)) {
            document = inOneLine(Files.readString(path));
        } else {
            System.out.println("the document is not there: its words are not compared");
        }
    }

    static void says(int promise, String sentence, Runnable test) {
        Due.heldTo(promise + " (" + sentence + "): ");
        if (!document.isEmpty()) {
            Due.is("the document says so", termsAnd(promise).contains(inOneLine(sentence)) ? 1 : 0, 1);
        }
        test.run();
        Due.heldTo("");
        named.add(promise);
    }

    /** Ends a test that names each of these promises. */
    static void close(int from, int to) {
        for (int promise = from; promise <= to; promise++) {
            Due.is("promise " + promise + " is named", named.contains(promise) ? 1 : 0, 1);
        }
        Due.end();
    }

    private static String inOneLine(String text) {
        return text.replaceAll("\\s+", " ").trim();
    }

    /** What stands ahead of all promises, and this promise. */
    private static String termsAnd(int promise) {
        String rest = document.substring(document.indexOf("## Promise " + promise + ":"));
        int end = rest.indexOf(" ## ");
        return document.substring(0, document.indexOf("## Promise 1:")) + rest.substring(0, end < 0 ? rest.length() : end);
    }

    /** Nothing was told. */
    static void empty(SharedPockets x) { }

    /** Something of all was told, and there is room for more; SHEET 3 is LOST, the latest FINDING was STORE. */
    static void busy(SharedPockets x) {
        Due.type(x, 0, "50o;31s;22f");
        Due.type(x, 1, "o1;h0;o.");
        Due.hands(x, "0p00 0p11 1t10 3p22 4t02 6t21 23p10");
        x.hole(9, 4);
        x.hole(20, 9);
        x.room(17);
        x.aunt(1 << 12 | 1 << 21);
        x.felt(2, 0, 1);
        x.felt(5, 1, 0);
        Due.fill(x, 0, 0, 1, -2, 3, 0, 7);
        Due.fill(x, 1, 1, 300, 0, -4);
        Due.fill(x, 2, 2, 70000, 0, 0, 9);
        x.copy(0, 0, 1, 0, 1);
    }

    /** All of which there is a most was told as often as it may be; the latest FINDING was CAST. */
    static void full(SharedPockets x) {
        Due.type(x, 0, EIGHT_THINGS);
        Due.type(x, 1, EIGHT_COUSINS);
        Due.hands(x, "0p00 0p11 1p22 1t30 2t41 2p33 3p30 4p44 4t54 5p55 6p66 6t16 7p77 8t07 8t70 9p07 11t22 17p16 22t65 23p77");
        for (int k = 0; k < 6; k++) {
            x.hole(3 + 4 * k, 1 + k);
        }
        x.aunt(1 << 19);
        for (int k = 0; k < 8; k++) {
            x.felt(2 * k, k, k % 3 == 0 && k < 6 ? 1 : 0);
        }
        x.sheet(0, 0, 60);
        x.put(0, 0, 59, 5);
        Due.fill(x, 1, 1, -30000);
        x.sheet(2, 2, 0);
        Due.fill(x, 3, 2, 8, LEAST + 1);
        x.put(0, 1, 0, 0);
    }

    /** The call answers so and changes nothing; a FINDING: nothing but count() 8. */
    static void refused(String call, long want, State state, Call act) {
        found(call, want, want >= SIZE && want <= NULL ? (int) (-10 - want) : 0, state, act);
    }

    /** As refused, where the answer does not tell the FINDING (0: it is none). */
    static void found(String call, long want, int finding, State state, Call act) {
        SharedPockets asked = made(state);
        SharedPockets alike = made(state);
        Due.is(call, act.on(asked), want);
        Due.is(call + ", then count(8)", asked.count(8), finding == 0 ? alike.count(8) : finding);
        List<String> got = Looks.of(asked);
        List<String> due = Looks.of(alike);
        String changed = "";
        for (int k = 0; k < Math.max(got.size(), due.size()) && changed.isEmpty(); k++) {
            String now = k < got.size() ? got.get(k) : "nothing";
            String was = k < due.size() ? due.get(k) : "nothing";
            changed = now.equals(was) ? "" : ", which changed " + was + " to " + now;
        }
        Due.is(call + changed, changed.isEmpty() ? 0 : 1, 0);
    }

    /** In each of the three states. */
    static void refusedAnywhere(String call, long want, Call act) {
        refused(call + " of an empty one", want, Edge::empty, act);
        refused(call + " of a busy one", want, Edge::busy, act);
        refused(call + " of a full one", want, Edge::full, act);
    }

    /** The least and the greatest number are as told; those just and far outside are BAD and change nothing. */
    static void bounds(String call, int from, int to, State state, Ask ask) {
        boundsBy(SharedPockets.BAD, call, from, to, state, ask);
    }

    /** In each of the three states. */
    static void boundsAnywhere(String call, int from, int to, Ask ask) {
        bounds(call + " of an empty one", from, to, Edge::empty, ask);
        bounds(call + " of a busy one", from, to, Edge::busy, ask);
        bounds(call + " of a full one", from, to, Edge::full, ask);
    }

    /** As bounds, where BAD is another number. */
    static void boundsBy(long bad, String call, int from, int to, State state, Ask ask) {
        for (int v : new int[] {from, to}) {
            Due.is(call + ", v = " + v + ", is BAD", from <= to && ask.on(made(state), v) == bad ? 1 : 0, 0);
        }
        for (int v : new int[] {from - 1, to + 1, LEAST, MOST}) {
            found(call + ", v = " + v, bad, 0, state, x -> ask.on(x, v));
        }
    }

    static SharedPockets made(State state) {
        SharedPockets x = new SharedPockets();
        state.tell(x);
        return x;
    }
}
