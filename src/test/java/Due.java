/** What the tests share: answers that are due, and texts typed byte by byte. */
final class Due {
    private static int calls = 0;
    private static int wrong = 0;
    private static String words = "";

    private Due() { }

    /** The words of the document to which the next answers are held. */
    static void heldTo(String document) {
        words = document;
    }

    static void is(String call, long got, long want) {
        calls++;
        if (got != want) {
            wrong++;
            System.out.println(words + call + " answered " + got + ", due is " + want);
        }
    }

    /** An object with these THINGS and COUSINS. */
    static SharedPockets with(String things, String cousins) {
        SharedPockets x = new SharedPockets();
        type(x, 0, things);
        type(x, 1, cousins);
        return x;
    }

    /** An object with these THINGS and COUSINS, and HANDS as a text. */
    static SharedPockets with(String things, String cousins, String hands) {
        SharedPockets x = with(things, cousins);
        hands(x, hands);
        return x;
    }

    static void type(SharedPockets x, int text, String signs) {
        for (int i = 0; i < signs.length(); i++) {
            x.type(text, signs.charAt(i));
        }
    }

    /** HANDS as a text: hour, p or t, cousin, thing; with blanks between them. */
    static void hands(SharedPockets x, String hands) {
        for (String hand : hands.trim().split(" +")) {
            int n = hand.length();
            int hour = Integer.parseInt(hand.substring(0, n - 3));
            int what = hand.charAt(n - 3) == 't' ? 1 : 0;
            x.hand(hour, hand.charAt(n - 2) - '0', hand.charAt(n - 1) - '0', what);
        }
    }

    /** A SHEET of a FORM with these items. */
    static void fill(SharedPockets x, int s, int form, int... items) {
        x.sheet(s, form, items.length);
        for (int i = 0; i < items.length; i++) {
            x.put(s, form, i, items[i]);
        }
    }

    /** Ends a test: exit code 1 if an answer was not the one that is due. */
    static void end() {
        System.out.println(wrong == 0 ? calls + " answers are as due" : wrong + " of " + calls + " answers are not as due");
        if (wrong != 0) {
            System.exit(1);
        }
    }
}
