import java.util.ArrayList;
import java.util.List;

/** All that an object tells but for count() 8, call by call. It loses the AUNT's HOURS and ROOM: it is the last look. */
final class Looks {
    private final SharedPockets x;
    private final List<String> row = new ArrayList<>();

    private Looks(SharedPockets x) {
        this.x = x;
    }

    static List<String> of(SharedPockets x) {
        Looks looks = new Looks(x);
        looks.atTexts();
        looks.atHours();
        for (int s = 0; s < 4; s++) {
            looks.atSheet(s);
        }
        looks.keep("digest()", x.digest());
        looks.keep("room(20)", x.room(20));
        looks.keep("aunt(0)", x.aunt(0));
        return looks.row;
    }

    private void keep(String call, long answer) {
        row.add(call + " " + answer);
    }

    private void atTexts() {
        for (int what = 0; what < 8; what++) {
            keep("count(" + what + ")", x.count(what));
        }
        keep("fault(0)", x.fault(0));
        keep("fault(1)", x.fault(1));
        for (int t = 0; t < x.count(0); t++) {
            for (int what = 0; what < 3; what++) {
                keep("thing(" + t + ", " + what + ")", x.thing(t, what));
            }
        }
        for (int c = 0; c < x.count(1); c++) {
            keep("cousin(" + c + ", 0)", x.cousin(c, 0));
            keep("cousin(" + c + ", 1)", x.cousin(c, 1));
        }
    }

    private void atHours() {
        int things = x.count(0);
        for (int t = 0; t < things; t++) {
            for (int h = 0; h < 24; h++) {
                keep("where(" + h + ", " + t + ")", x.where(h, t));
            }
            keep("when(0, " + t + ")", x.when(0, t));
        }
        int hands = x.count(4);
        for (int k = 0; k < hands; k++) {
            keep("works(" + k + ")", x.works(k));
        }
    }

    /** Its FORM is the one by which there is no CAST; behind its last item get() answers the least int. */
    private void atSheet(int s) {
        for (int form = 0; form < 3; form++) {
            int item = x.get(s, form, 0);
            x.get(s, form, -1);
            keep("sheet " + s + " as of form " + form + ", finding", x.count(8));
            for (int i = 0; i < 60 && item != Integer.MIN_VALUE; i++) {
                keep("get(" + s + ", " + form + ", " + i + ")", item);
                item = x.get(s, form, i + 1);
            }
        }
    }
}
