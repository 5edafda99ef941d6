import java.util.ArrayList;
import java.util.Arrays;
import java.util.List;
import java.math.BigInteger;

/** The document once more, in its plainest and slowest form: each question goes through all HOURS anew. */
final class Oracle {
    static final int NONE = -1, BAD = -2, NOT = -3, FULL = -4;

    record Hand(int hour, int cousin, int thing, int what) { }

    record Hole(int hour, int size) { }

    record Felt(int hour, int thing, int is) { }

    record Thing(int size, int owner, int kind) { }

    record Cousin(boolean honest, int wants) { }

    /** One way through the HOURS: places behind each HOUR, and which HANDS worked. */
    static final class Way {
        final int[][] places = new int[24][];
        final List<Hand> worked = new ArrayList<>();
    }

    private final String[] texts = {"", ""};
    private String knownThings = "";
    private String knownCousins = "";
    private List<Thing> thingList = new ArrayList<>();
    private List<Cousin> cousinList = new ArrayList<>();
    private int room = 20;
    private int aunt = 0;
    private final List<Hand> hands = new ArrayList<>();
    private final List<Hole> holes = new ArrayList<>();
    private final List<Felt> felts = new ArrayList<>();
    private final int[] forms = new int[4];
    private final int[][] sheets = new int[4][];
    private int finding = 0;

    private static boolean in(int v, int from, int to) {
        return v >= from && v <= to;
    }

    int type(int text, int b) {
        if (!in(text, 0, 1) || !in(b, 0, 255)) return BAD;
        if (texts[text].length() == (text == 0 ? 31 : 23)) return FULL;
        texts[text] += (char) b;
        return texts[text].length();
    }

    int wipe(int text) {
        if (!in(text, 0, 1)) return BAD;
        int had = texts[text].length();
        texts[text] = "";
        return had;
    }

    int undo(int text) {
        if (!in(text, 0, 1)) return BAD;
        int had = texts[text].length();
        if (had == 0) return NOT;
        texts[text] = texts[text].substring(0, had - 1);
        return had - 1;
    }

    /** The end of the longest beginning that a well text can have, found by filling it up. */
    int fault(int text) {
        if (!in(text, 0, 1)) return BAD;
        String form = text == 0 ? "[1-9][0-7][osf]" : "[oh][0-7.]";
        String filled = text == 0 ? "10o" : "o0";
        String whole = form + "(;" + form + "){0,7}";
        String t = texts[text];
        if (t.isEmpty() || t.matches(whole)) return NONE;
        for (int n = t.length(); n > 0; n--) {
            for (int k = 0; k <= filled.length(); k++) {
                if ((t.substring(0, n) + filled.substring(k)).matches(whole)) return n;
            }
        }
        return 0;
    }

    private List<Thing> things() {
        if (!texts[0].equals(knownThings)) {
            knownThings = texts[0];
            thingList = readThings();
        }
        return thingList;
    }

    private List<Cousin> cousins() {
        if (!texts[1].equals(knownCousins)) {
            knownCousins = texts[1];
            cousinList = readCousins();
        }
        return cousinList;
    }

    private List<Thing> readThings() {
        List<Thing> all = new ArrayList<>();
        if (fault(0) != NONE || texts[0].isEmpty()) return all;
        for (String t : texts[0].split(";")) all.add(new Thing(t.charAt(0) - '0', t.charAt(1) - '0', "osf".indexOf(t.charAt(2))));
        return all;
    }

    private List<Cousin> readCousins() {
        List<Cousin> all = new ArrayList<>();
        if (fault(1) != NONE || texts[1].isEmpty()) return all;
        for (String t : texts[1].split(";")) all.add(new Cousin(t.charAt(0) == 'h', t.charAt(1) == '.' ? NONE : t.charAt(1) - '0'));
        return all;
    }

    private boolean isThing(int t) {
        return in(t, 0, things().size() - 1);
    }

    private boolean isCousin(int c) {
        return in(c, 0, cousins().size() - 1);
    }

    int thing(int thing, int what) {
        if (!isThing(thing) || !in(what, 0, 2)) return BAD;
        Thing t = things().get(thing);
        return new int[] {t.size, t.owner, t.kind}[what];
    }

    int cousin(int cousin, int what) {
        if (!isCousin(cousin) || !in(what, 0, 1)) return BAD;
        Cousin c = cousins().get(cousin);
        return what == 0 ? (c.honest ? 1 : 0) : c.wants;
    }

    int room(int v) {
        if (!in(v, 1, 72)) return BAD;
        int was = room;
        room = v;
        return was;
    }

    int aunt(int hours) {
        if (!in(hours, 0, 0xFFFFFF)) return BAD;
        int was = aunt;
        aunt = hours;
        return was;
    }

    int hand(int hour, int cousin, int thing, int what) {
        if (!in(hour, 0, 23) || !in(cousin, 0, 7) || !in(thing, 0, 7) || !in(what, 0, 1)) return BAD;
        if (hands.size() == 20) return FULL;
        hands.add(new Hand(hour, cousin, thing, what));
        return hands.size();
    }

    int hole(int hour, int size) {
        if (!in(hour, 0, 23) || !in(size, 1, 9)) return BAD;
        if (holes.size() == 6) return FULL;
        holes.add(new Hole(hour, size));
        return holes.size();
    }

    int back(int what) {
        if (!in(what, 0, 1)) return BAD;
        List<?> list = what == 0 ? hands : holes;
        if (list.isEmpty()) return NOT;
        list.remove(list.size() - 1);
        return list.size();
    }

    int read(int s) {
        if (!in(s, 0, 3)) return BAD;
        if (sheets[s] == null) return found(1);
        int many = 0;
        int[] v = sheets[s];
        while (4 * many + 4 <= v.length && hand(v[4 * many], v[4 * many + 1], v[4 * many + 2], v[4 * many + 3]) > 0) many++;
        return many;
    }

    /** All HOURS by these HANDS (in the order that they are told) and these HOURS of the AUNT's. */
    private Way way(List<Hand> told, int auntHours) {
        return wayTo(23, told, auntHours);
    }

    private Way wayTo(int last, List<Hand> told, int auntHours) {
        List<Thing> things = things();
        List<Cousin> cousins = cousins();
        int n = things.size();
        int m = cousins.size();
        Way way = new Way();
        int[] place = new int[n];
        for (int t = 0; t < n; t++) place[t] = things.get(t).owner < m ? things.get(t).owner : 9;
        boolean[][] tookAhead = new boolean[8][8];
        boolean[][] soupThen = new boolean[24][n];
        for (int h = 0; h <= last; h++) {
            boolean[][] took = new boolean[8][8];
            for (int c = 0; c < m; c++) {
                for (int t = 0; t < n; t++) {
                    boolean owes = cousins.get(c).honest && tookAhead[c][t] && things.get(t).owner != c && place[t] == c;
                    if (owes && loadOf(place) + things.get(t).size <= room) place[t] = 8;
                }
            }
            for (Hand hand : told) {
                if (hand.hour != h || hand.cousin >= m || hand.thing >= n) continue;
                if (hand.what == 0 && place[hand.thing] == hand.cousin && loadOf(place) + things.get(hand.thing).size <= room) {
                    place[hand.thing] = 8;
                    way.worked.add(hand);
                } else if (hand.what == 1 && place[hand.thing] == 8) {
                    place[hand.thing] = hand.cousin;
                    took[hand.cousin][hand.thing] = true;
                    way.worked.add(hand);
                }
            }
            for (Hole hole : holes) {
                for (int t = 0; t < n; t++) {
                    if (hole.hour == h && place[t] == 8 && things.get(t).size <= hole.size) place[t] = 9;
                }
            }
            for (int t = 0; t < n; t++) soupThen[h][t] = place[t] == 8;
            for (int t = 0; t < n; t++) {
                boolean stale = h >= 2 && soupThen[h][t] && soupThen[h - 1][t] && soupThen[h - 2][t];
                if (things.get(t).kind == 1 && stale) place[t] = 9;
            }
            if ((auntHours >> h & 1) == 1) {
                for (int t = 0; t < n; t++) {
                    if (place[t] == 8 && things.get(t).owner < m) place[t] = things.get(t).owner;
                }
            }
            tookAhead = took;
            way.places[h] = place.clone();
        }
        return way;
    }

    private int loadOf(int[] place) {
        int sum = 0;
        for (int t = 0; t < place.length; t++) if (place[t] == 8) sum += things().get(t).size;
        return sum;
    }

    private Way asTold() {
        return way(hands, aunt);
    }

    int where(int hour, int thing) {
        return in(hour, 0, 23) && isThing(thing) ? asTold().places[hour][thing] : BAD;
    }

    int has(int hour, int cousin) {
        if (!in(hour, 0, 23) || !isCousin(cousin)) return BAD;
        int bits = 0;
        for (int t = 0; t < things().size(); t++) if (where(hour, t) == cousin) bits |= 1 << t;
        return bits;
    }

    int load(int hour) {
        return in(hour, 0, 23) ? loadOf(asTold().places[hour]) : BAD;
    }

    int happy(int hour) {
        if (!in(hour, 0, 23)) return BAD;
        int bits = 0;
        for (int c = 0; c < cousins().size(); c++) {
            int wants = cousins().get(c).wants;
            if (isThing(wants) && where(hour, wants) == c) bits |= 1 << c;
        }
        return bits;
    }

    private static boolean hasOne(List<Hand> list, Hand hand) {
        for (Hand one : list) if (one == hand) return true;
        return false;
    }

    int works(int hand) {
        if (!in(hand, 0, hands.size() - 1)) return BAD;
        return hasOne(asTold().worked, hands.get(hand)) ? 1 : 0;
    }

    int fails() {
        int first = NONE;
        for (int k = hands.size() - 1; k >= 0; k--) {
            if (works(k) == 0 && (first == NONE || hands.get(k).hour <= hands.get(first).hour)) first = k;
        }
        return first;
    }

    int went(int thing) {
        if (!isThing(thing)) return BAD;
        if (things().get(thing).owner >= cousins().size()) return NONE;
        for (int h = 0; h < 24; h++) if (where(h, thing) == 9) return h;
        return NONE;
    }

    private static int told(List<Integer> row, int i) {
        if (row == null) return NONE;
        if (i == NONE) return row.size();
        return i < row.size() ? row.get(i) : NONE;
    }

    private boolean lends(int cousin, int thing, int hour, int behind, int... numbers) {
        List<Hand> more = new ArrayList<>(hands);
        for (int number : numbers) {
            int c = number >> 3 & 7;
            int t = number & 7;
            if (!isCousin(c) || !isThing(t)) return false;
            more.add(new Hand(hour, c, t, number >> 6));
        }
        return wayTo(behind, more, aunt).places[behind][thing] == cousin;
    }

    private List<Integer> lendRow(int cousin, int thing, int hour, int behind) {
        if (lends(cousin, thing, hour, behind)) return List.of();
        for (int one = 0; one < 128; one++) if (lends(cousin, thing, hour, behind, one)) return List.of(one);
        for (int one = 0; one < 128; one++) {
            if (!isCousin(one >> 3 & 7) || !isThing(one & 7)) continue;
            for (int two = 0; two < 128; two++) if (lends(cousin, thing, hour, behind, one, two)) return List.of(one, two);
        }
        return null;
    }

    int lend(int cousin, int thing, int hour, int behind, int i) {
        if (!isCousin(cousin) || !isThing(thing) || !in(hour, 0, 23) || !in(behind, 0, 23) || !in(i, -1, 1)) return BAD;
        return told(lendRow(cousin, thing, hour, behind), i);
    }

    private static void orders(List<Hand> left, List<Hand> begun, List<List<Hand>> all) {
        if (left.isEmpty()) all.add(new ArrayList<>(begun));
        for (int k = 0; k < left.size(); k++) {
            List<Hand> rest = new ArrayList<>(left);
            begun.add(rest.remove(k));
            orders(rest, begun, all);
            begun.remove(begun.size() - 1);
        }
    }

    int hangs(int hour) {
        if (!in(hour, 0, 23)) return BAD;
        List<Hand> five = new ArrayList<>();
        List<Hand> others = new ArrayList<>();
        for (Hand hand : hands) (hand.hour == hour && five.size() < 5 ? five : others).add(hand);
        List<List<Hand>> all = new ArrayList<>();
        orders(five, new ArrayList<>(), all);
        int bits = 0;
        int[] first = asTold().places[hour];
        for (List<Hand> order : all) {
            order.addAll(others);
            int[] places = wayTo(hour, order, aunt).places[hour];
            for (int t = 0; t < first.length; t++) if (places[t] != first[t]) bits |= 1 << t;
        }
        return bits;
    }

    private boolean sorts(int bound, int auntHours) {
        for (int[] places : way(hands, auntHours).places) if (loadOf(places) > bound) return false;
        return true;
    }

    private List<Integer> sortRow(int bound) {
        if (sorts(bound, 0)) return List.of();
        for (int a = 0; a < 24; a++) if (sorts(bound, 1 << a)) return List.of(a);
        for (int a = 0; a < 24; a++) for (int b = a + 1; b < 24; b++) if (sorts(bound, 1 << a | 1 << b)) return List.of(a, b);
        return null;
    }

    int sort(int bound, int i) {
        if (!in(bound, 0, 72) || !in(i, -1, 1)) return BAD;
        return told(sortRow(bound), i);
    }

    int felt(int hour, int thing, int is) {
        if (!in(hour, 0, 23) || !in(thing, 0, 7) || !in(is, 0, 1)) return BAD;
        if (felts.size() == 8) return FULL;
        felts.add(new Felt(hour, thing, is));
        return felts.size();
    }

    int forget() {
        int had = felts.size();
        felts.clear();
        return had;
    }

    private List<Way> fitting(int cousin, int thing, List<Integer> atHours) {
        List<Way> fit = new ArrayList<>();
        for (int h = 0; h < 24; h++) {
            List<Hand> more = new ArrayList<>(hands);
            more.add(new Hand(h, cousin, thing, 1));
            Way way = way(more, aunt);
            boolean all = true;
            for (Felt felt : felts) {
                boolean is = felt.thing < things().size() && way.places[felt.hour][felt.thing] == 8;
                all &= is == (felt.is == 1);
            }
            if (all) {
                fit.add(way);
                atHours.add(h);
            }
        }
        return fit;
    }

    int when(int cousin, int thing) {
        if (!isCousin(cousin) || !isThing(thing)) return BAD;
        List<Integer> atHours = new ArrayList<>();
        fitting(cousin, thing, atHours);
        int bits = 0;
        for (int h : atHours) bits |= 1 << h;
        return bits;
    }

    int thief(int thing) {
        if (!isThing(thing)) return BAD;
        int bits = 0;
        for (int c = 0; c < cousins().size(); c++) if (when(c, thing) != 0) bits |= 1 << c;
        return bits;
    }

    int feel(int cousin, int thing) {
        if (!isCousin(cousin) || !isThing(thing)) return BAD;
        List<Way> fit = fitting(cousin, thing, new ArrayList<>());
        int best = NONE;
        int least = Integer.MAX_VALUE;
        for (int h = 0; h < 24; h++) {
            int inside = 0;
            for (Way way : fit) if (way.places[h][thing] == 8) inside++;
            int greater = Math.max(inside, fit.size() - inside);
            if (greater < least) {
                least = greater;
                best = h;
            }
        }
        return best;
    }

    long jumps(int c, int thing, int hour, int what) {
        if (!in(c, 0, 16) || !isThing(thing) || !in(hour, 0, 12) || !in(what, 0, 1)) return Long.MIN_VALUE + 2;
        BigInteger above = BigInteger.ONE;
        BigInteger below = BigInteger.ONE;
        for (int h = 0; h <= hour; h++) {
            if (thing(thing, 2) == 2 && where(h, thing) == 8) {
                above = above.multiply(BigInteger.valueOf(16 - c));
                below = below.multiply(BigInteger.valueOf(16));
            }
        }
        BigInteger both = above.gcd(below);
        return (what == 0 ? above : below).divide(both).longValueExact();
    }

    int day(int seed, int hour, int thing) {
        if (!in(hour, 0, 23) || thing != NONE && !isThing(thing)) return BAD;
        int n = things().size();
        int m = cousins().size();
        List<Hand> more = new ArrayList<>(hands);
        List<Hand> own = new ArrayList<>();
        if (n > 0 && m > 0) {
            int[] s = {seed};
            for (int h = 0; h <= hour; h++) {
                int c = lot(s, m);
                int t = lot(s, n);
                own.add(new Hand(h, c, t, lot(s, 2)));
            }
        }
        more.addAll(own);
        Way way = way(more, aunt);
        if (thing != NONE) return way.places[hour][thing];
        int many = 0;
        for (Hand hand : own) if (hasOne(way.worked, hand)) many++;
        return many;
    }

    private static int lot(int[] s, int m) {
        s[0] = (int) (1103515245L * s[0] + 12345L);
        return (int) ((s[0] & 0xFFFFFFFFL) / 65536 % m);
    }

    private int found(int number) {
        finding = number;
        return -10 - number;
    }

    int sheet(int s, int form, int n) {
        if (!in(s, 0, 3) || !in(form, 0, 2) || n > 60) return BAD;
        if (n < 0) return found(5);
        forms[s] = form;
        sheets[s] = new int[n];
        return n;
    }

    int lose(int s) {
        if (!in(s, 0, 3)) return BAD;
        if (sheets[s] == null) return found(1);
        int had = sheets[s].length;
        sheets[s] = null;
        return had;
    }

    private int cut(int s, int v) {
        return forms[s] == 0 ? (byte) v : forms[s] == 1 ? (short) v : v;
    }

    int put(int s, int form, int i, int v) {
        if (!in(s, 0, 3) || !in(form, 0, 2)) return BAD;
        if (sheets[s] == null) return found(1);
        if (forms[s] != form) return found(3);
        if (!in(i, 0, sheets[s].length - 1)) return found(2);
        sheets[s][i] = cut(s, v);
        return 1;
    }

    int get(int s, int form, int i) {
        int least = Integer.MIN_VALUE;
        if (!in(s, 0, 3) || !in(form, 0, 2)) return least;
        if (sheets[s] == null) return found(1) < 0 ? least : 0;
        if (forms[s] != form) return found(3) < 0 ? least : 0;
        if (!in(i, 0, sheets[s].length - 1)) return found(2) < 0 ? least : 0;
        return sheets[s][i];
    }

    int copy(int s, int i, int t, int j, int n) {
        if (!in(s, 0, 3) || !in(t, 0, 3)) return BAD;
        if (sheets[s] == null || sheets[t] == null) return found(1);
        if (forms[s] != forms[t]) return found(4);
        if (i < 0 || j < 0 || n < 0) return found(2);
        if ((long) i + n > sheets[s].length || (long) j + n > sheets[t].length) return found(2);
        int[] were = Arrays.copyOfRange(sheets[s], i, i + n);
        for (int k = 0; k < n; k++) sheets[t][j + k] = were[k];
        return 1;
    }

    int write(int what, int s) {
        if (!in(what, 0, 1) || !in(s, 0, 3)) return BAD;
        if (sheets[s] == null) return found(1);
        int many = Math.min(24, sheets[s].length);
        for (int h = 0; h < many; h++) sheets[s][h] = cut(s, what == 0 ? load(h) : happy(h));
        return many;
    }

    int count(int what) {
        if (!in(what, 0, 8)) return BAD;
        int working = 0;
        for (int k = 0; k < hands.size(); k++) working += works(k);
        return new int[] {things().size(), cousins().size(), texts[0].length(), texts[1].length(), hands.size(), working, holes.size(), felts.size(), finding}[what];
    }

    private long h;

    private void fold(long... values) {
        for (long v : values) h = 31 * h + v;
    }

    long digest() {
        h = 17;
        for (int what = 0; what <= 7; what++) fold(count(what));
        fold(fault(0), fault(1));
        for (int t = 0; t < things().size(); t++) {
            fold(thing(t, 0), thing(t, 1), thing(t, 2), where(5, t), where(23, t), went(t));
            fold(lend(0, t, 3, 4, NONE), lend(0, t, 3, 4, 0), thief(t), feel(0, t));
            fold(jumps(5, t, 9, 0), jumps(5, t, 9, 1), day(7, 12, t));
        }
        for (int c = 0; c < cousins().size(); c++) fold(cousin(c, 0), cousin(c, 1), has(9, c), when(c, 0));
        for (int hour : new int[] {0, 1, 5, 12, 23}) fold(load(hour), happy(hour), hangs(hour));
        for (int k = 0; k < hands.size(); k++) fold(works(k));
        fold(fails(), sort(9, NONE), sort(9, 0), day(7, 12, NONE));
        return h;
    }
}
