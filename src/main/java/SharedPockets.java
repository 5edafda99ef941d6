import java.util.Arrays;

/** One pocket that all cousins share, hour by hour. What each call answers is told in DOC.md. */
public final class SharedPockets {
    public static final int NONE = -1, BAD = -2, NOT = -3, FULL = -4;

    private static final int HOURS = 24;
    private static final int MOST = 8;
    private static final int POCKET = 8;
    private static final int GONE = 9;
    private static final int FROG = 2;

    /** A HAND's number: this much if it TAKES, and 8 times the COUSIN, and the THING. */
    private static final int TAKES = 64;
    private static final int HAND_NUMBERS = 128;

    private static final int MOST_ROOM = 72;
    private static final int MOST_ITEMS = 60;
    private static final int LAST_JUMP_HOUR = 12;

    private static final int LEAST = 1 << 31;
    private static final long LEAST_LONG = 1L << 63;

    private static final int NULL = 1, INDEX = 2, CAST = 3, STORE = 4, SIZE = 5;

    private final Text thingText;
    private final Text cousinText;
    private final Family family;
    private final Told told;
    private final Hours hours;
    private final Plans plans;
    private final Guesses guesses;
    private final Sheet[] sheets;
    private int finding;
    /** Whether something was told since the hours were last gone through. */
    private boolean stale;

    public SharedPockets() {
        thingText = new Text(31, "123456789", "01234567", "osf");
        cousinText = new Text(23, "oh", "01234567.", "");
        family = new Family();
        told = new Told();
        hours = new Hours(family, told);
        plans = new Plans(family, told, hours);
        guesses = new Guesses(family, told, hours);
        sheets = new Sheet[4];
        for (int s = 0; s < sheets.length; s++) {
            sheets[s] = new Sheet();
        }
        stale = true;
    }

    // ---- things, cousins, hands

    public int type(int text, int b) {
        if (!isText(text) || b < 0 || b > 255) {
            return BAD;
        }
        stale = true;
        return textOf(text).append(b);
    }

    public int wipe(int text) {
        if (!isText(text)) {
            return BAD;
        }
        stale = true;
        Text t = textOf(text);
        int had = t.length;
        t.length = 0;
        return had;
    }

    public int undo(int text) {
        if (!isText(text)) {
            return BAD;
        }
        Text t = textOf(text);
        if (t.length == 0) {
            return NOT;
        }
        stale = true;
        t.length--;
        return t.length;
    }

    public int fault(int text) {
        return isText(text) ? textOf(text).firstWrong() : BAD;
    }

    public int thing(int thing, int what) {
        refresh();
        if (!isThing(thing) || what < 0 || what > 2) {
            return BAD;
        }
        return family.ofThing(thing, what);
    }

    public int cousin(int cousin, int what) {
        refresh();
        if (!isCousin(cousin) || !isBit(what)) {
            return BAD;
        }
        return family.ofCousin(cousin, what);
    }

    public int room(int v) {
        if (v < 1 || v > MOST_ROOM) {
            return BAD;
        }
        stale = true;
        int was = told.room;
        told.room = v;
        return was;
    }

    public int aunt(int hours) {
        if (hours < 0 || hours >= 1 << HOURS) {
            return BAD;
        }
        stale = true;
        int was = told.aunt;
        told.aunt = hours;
        return was;
    }

    public int hand(int hour, int cousin, int thing, int what) {
        stale = true;
        return told.addHand(hour, cousin, thing, what);
    }

    public int hole(int hour, int size) {
        stale = true;
        return told.addHole(hour, size);
    }

    public int back(int what) {
        if (!isBit(what)) {
            return BAD;
        }
        int many = what == 0 ? told.hands : told.holes;
        if (many == 0) {
            return NOT;
        }
        stale = true;
        if (what == 0) {
            told.hands = many - 1;
        } else {
            told.holes = many - 1;
        }
        return many - 1;
    }

    public int read(int s) {
        if (!isSheet(s)) {
            return BAD;
        }
        Sheet sheet = sheets[s];
        if (sheet.length < 0) {
            return found(NULL);
        }
        stale = true;
        int many = 0;
        for (int i = 0; i + 3 < sheet.length; i += 4) {
            int[] items = sheet.items;
            if (told.addHand(items[i], items[i + 1], items[i + 2], items[i + 3]) < 0) {
                break;
            }
            many++;
        }
        return many;
    }

    // ---- hours

    public int where(int hour, int thing) {
        refresh();
        if (!isHour(hour) || !isThing(thing)) {
            return BAD;
        }
        return hours.behind[hour].placeOf(thing);
    }

    public int has(int hour, int cousin) {
        refresh();
        if (!isHour(hour) || !isCousin(cousin)) {
            return BAD;
        }
        return hours.heldBy(hour, cousin);
    }

    public int load(int hour) {
        refresh();
        return isHour(hour) ? hours.behind[hour].load : BAD;
    }

    public int happy(int hour) {
        refresh();
        return isHour(hour) ? hours.content(hour) : BAD;
    }

    public int works(int hand) {
        refresh();
        if (hand < 0 || hand >= told.hands) {
            return BAD;
        }
        return hours.worked >> hand & 1;
    }

    public int fails() {
        refresh();
        return hours.firstIdle();
    }

    public int went(int thing) {
        refresh();
        return isThing(thing) ? hours.firstGone(thing) : BAD;
    }

    // ---- plans

    public int lend(int cousin, int thing, int hour, int behind, int i) {
        refresh();
        if (!isCousin(cousin) || !isThing(thing) || !isHour(hour) || !isHour(behind) || !isRowPlace(i)) {
            return BAD;
        }
        plans.planLend(cousin, thing, hour, behind);
        return plans.lent.told(i);
    }

    public int hangs(int hour) {
        refresh();
        return isHour(hour) ? plans.unsettled(hour) : BAD;
    }

    public int sort(int bound, int i) {
        refresh();
        if (bound < 0 || bound > MOST_ROOM || !isRowPlace(i)) {
            return BAD;
        }
        plans.planSort(bound);
        return plans.sorted.told(i);
    }

    // ---- felt, frogs, days

    public int felt(int hour, int thing, int is) {
        return told.addFelt(hour, thing, is);
    }

    public int forget() {
        int had = told.felts;
        told.felts = 0;
        return had;
    }

    public int when(int cousin, int thing) {
        refresh();
        return isCousin(cousin) && isThing(thing) ? guesses.fittingHours(cousin, thing) : BAD;
    }

    public int thief(int thing) {
        refresh();
        return isThing(thing) ? guesses.suspects(thing) : BAD;
    }

    public int feel(int cousin, int thing) {
        refresh();
        return isCousin(cousin) && isThing(thing) ? guesses.bestHour(cousin, thing) : BAD;
    }

    public long jumps(int c, int thing, int hour, int what) {
        refresh();
        if (c < 0 || c > 16 || !isThing(thing) || hour < 0 || hour > LAST_JUMP_HOUR || !isBit(what)) {
            return LEAST_LONG - BAD;
        }
        return hours.stayChance(c, thing, hour, what);
    }

    public int day(int seed, int hour, int thing) {
        refresh();
        if (!isHour(hour) || thing != NONE && !isThing(thing)) {
            return BAD;
        }
        return hours.dayBySeed(seed, hour, thing);
    }

    // ---- sheets

    public int sheet(int s, int form, int n) {
        if (!isSheet(s) || !isForm(form) || n > MOST_ITEMS) {
            return BAD;
        }
        if (n < 0) {
            return found(SIZE);
        }
        Sheet sheet = sheets[s];
        sheet.form = form;
        sheet.length = n;
        Arrays.fill(sheet.items, 0);
        return n;
    }

    public int lose(int s) {
        if (!isSheet(s)) {
            return BAD;
        }
        int had = sheets[s].length;
        if (had < 0) {
            return found(NULL);
        }
        sheets[s].length = NONE;
        return had;
    }

    public int put(int s, int form, int i, int v) {
        if (!isSheet(s) || !isForm(form)) {
            return BAD;
        }
        Sheet sheet = sheets[s];
        int wrong = sheet.refusal(form, i);
        if (wrong != 0) {
            return found(wrong);
        }
        sheet.set(i, v);
        return 1;
    }

    public int get(int s, int form, int i) {
        if (!isSheet(s) || !isForm(form)) {
            return LEAST;
        }
        Sheet sheet = sheets[s];
        int wrong = sheet.refusal(form, i);
        if (wrong != 0) {
            finding = wrong;
            return LEAST;
        }
        return sheet.items[i];
    }

    public int copy(int s, int i, int t, int j, int n) {
        if (!isSheet(s) || !isSheet(t)) {
            return BAD;
        }
        Sheet from = sheets[s];
        Sheet to = sheets[t];
        if (from.length < 0 || to.length < 0) {
            return found(NULL);
        }
        if (from.form != to.form) {
            return found(STORE);
        }
        if (!from.holds(i, n) || !to.holds(j, n)) {
            return found(INDEX);
        }
        System.arraycopy(from.items, i, to.items, j, n);
        return 1;
    }

    public int write(int what, int s) {
        if (!isBit(what) || !isSheet(s)) {
            return BAD;
        }
        Sheet sheet = sheets[s];
        if (sheet.length < 0) {
            return found(NULL);
        }
        refresh();
        int many = Math.min(sheet.length, HOURS);
        for (int h = 0; h < many; h++) {
            sheet.set(h, what == 0 ? hours.behind[h].load : hours.content(h));
        }
        return many;
    }

    public int count(int what) {
        refresh();
        return tally(what);
    }

    public long digest() {
        refresh();
        long h = 17;
        for (int what = 0; what < 8; what++) {
            h = 31 * h + tally(what);
        }
        h = 31 * h + thingText.firstWrong();
        h = 31 * h + cousinText.firstWrong();
        for (int t = 0; t < family.things; t++) {
            h = foldThingGuesses(foldThingHours(h, t), t);
        }
        for (int c = 0; c < family.cousins; c++) {
            h = foldCousin(h, c);
        }
        h = foldHour(h, 0);
        h = foldHour(h, 1);
        h = foldHour(h, 5);
        h = foldHour(h, 12);
        h = foldHour(h, 23);
        for (int k = 0; k < told.hands; k++) {
            h = 31 * h + (hours.worked >> k & 1);
        }
        h = 31 * h + hours.firstIdle();
        plans.planSort(9);
        h = 31 * h + plans.sorted.told(NONE);
        h = 31 * h + plans.sorted.told(0);
        return 31 * h + hours.dayBySeed(7, 12, NONE);
    }

    private int tally(int what) {
        switch (what) {
            case 0: return family.things;
            case 1: return family.cousins;
            case 2: return thingText.length;
            case 3: return cousinText.length;
            case 4: return told.hands;
            case 5: return Integer.bitCount(hours.worked);
            case 6: return told.holes;
            case 7: return told.felts;
            case 8: return finding;
            default: return BAD;
        }
    }

    private long foldThingHours(long before, int thing) {
        long h = before;
        for (int what = 0; what < 3; what++) {
            h = 31 * h + family.ofThing(thing, what);
        }
        h = 31 * h + hours.behind[5].placeOf(thing);
        h = 31 * h + hours.behind[23].placeOf(thing);
        return 31 * h + hours.firstGone(thing);
    }

    private long foldThingGuesses(long before, int thing) {
        long h = before;
        boolean somebody = family.cousins > 0;
        if (somebody) {
            plans.planLend(0, thing, 3, 4);
        }
        h = 31 * h + (somebody ? plans.lent.told(NONE) : BAD);
        h = 31 * h + (somebody ? plans.lent.told(0) : BAD);
        h = 31 * h + guesses.suspects(thing);
        h = 31 * h + (somebody ? guesses.bestHour(0, thing) : BAD);
        h = 31 * h + hours.stayChance(5, thing, 9, 0);
        h = 31 * h + hours.stayChance(5, thing, 9, 1);
        return 31 * h + hours.dayBySeed(7, 12, thing);
    }

    private long foldCousin(long before, int cousin) {
        long h = before;
        h = 31 * h + family.ofCousin(cousin, 0);
        h = 31 * h + family.ofCousin(cousin, 1);
        h = 31 * h + hours.heldBy(9, cousin);
        return 31 * h + (family.things > 0 ? guesses.fittingHours(cousin, 0) : BAD);
    }

    private long foldHour(long before, int hour) {
        long h = before;
        h = 31 * h + hours.behind[hour].load;
        h = 31 * h + hours.content(hour);
        return 31 * h + plans.unsettled(hour);
    }

    private void refresh() {
        if (!stale) {
            return;
        }
        family.learnThings(thingText);
        family.learnCousins(cousinText);
        told.arrange();
        hours.replay();
        plans.drop();
        stale = false;
    }

    private int found(int number) {
        finding = number;
        return -10 - number;
    }

    private Text textOf(int text) {
        return text == 0 ? thingText : cousinText;
    }

    private boolean isThing(int thing) {
        return thing >= 0 && thing < family.things;
    }

    private boolean isCousin(int cousin) {
        return cousin >= 0 && cousin < family.cousins;
    }

    private static boolean isText(int text) {
        return isBit(text);
    }

    private static boolean isBit(int v) {
        return v == 0 || v == 1;
    }

    private static boolean isRowPlace(int i) {
        return i == NONE || isBit(i);
    }

    private static boolean isEighth(int v) {
        return v >= 0 && v < MOST;
    }

    private static boolean isHour(int hour) {
        return hour >= 0 && hour < HOURS;
    }

    private static boolean isSheet(int s) {
        return s >= 0 && s < 4;
    }

    private static boolean isForm(int form) {
        return form >= 0 && form <= 2;
    }

    /** A text of items of two or three signs, with ; between them. */
    private static final class Text {
        final int[] bytes;
        final String first;
        final String second;
        final String third;
        final int width;
        int length;

        /** An item has two signs where the third is none. */
        Text(int most, String first, String second, String third) {
            this.bytes = new int[most];
            this.first = first;
            this.second = second;
            this.third = third;
            this.width = third.isEmpty() ? 2 : 3;
        }

        int append(int b) {
            if (length >= bytes.length) {
                return FULL;
            }
            bytes[length] = b;
            length++;
            return length;
        }

        /** The bytes hold eight items and no more, so there is no ninth to look for. */
        int firstWrong() {
            int at = 0;
            for (int i = 0; i < length; i++) {
                if (!fits(at, bytes[i])) {
                    return i;
                }
                at = at == width ? 0 : at + 1;
            }
            return length == 0 || at == width ? NONE : length;
        }

        int items() {
            if (firstWrong() != NONE) {
                return 0;
            }
            return width == 2 ? (length + 1) / 3 : (length + 1) / 4;
        }

        /** The place of an item's sign among those that may stand there. */
        int sign(int item, int at) {
            int i = item * (width + 1) + at;
            return i < 0 || i >= length ? NONE : signs(at).indexOf((char) bytes[i]);
        }

        private boolean fits(int at, int b) {
            return at == width ? b == ';' : signs(at).indexOf((char) b) >= 0;
        }

        private String signs(int at) {
            if (at == 0) {
                return first;
            }
            return at == 1 ? second : third;
        }
    }

    /** The THINGS and the COUSINS, as their texts tell them. */
    private static final class Family {
        int things;
        int cousins;
        final int[] size = new int[MOST];
        final int[] owner = new int[MOST];
        final int[] kind = new int[MOST];
        final int[] wish = new int[MOST];
        /** COUSINS who are honest, as bits. */
        int honest;
        /** THINGS that are soup, as bits. */
        int soup;
        /** SIZES of all THINGS. */
        int bulk;
        /** THINGS of a SIZE or less, as bits. */
        final int[] upTo = new int[10];

        void learnThings(Text text) {
            things = Math.min(text.items(), MOST);
            soup = 0;
            bulk = 0;
            Arrays.fill(upTo, 0);
            for (int t = 0; t < things; t++) {
                size[t] = text.sign(t, 0) + 1;
                owner[t] = text.sign(t, 1);
                kind[t] = text.sign(t, 2);
                bulk += size[t];
                if (kind[t] == 1) {
                    soup |= 1 << t;
                }
                for (int s = 0; s < upTo.length; s++) {
                    if (size[t] <= s) {
                        upTo[s] |= 1 << t;
                    }
                }
            }
        }

        void learnCousins(Text text) {
            cousins = Math.min(text.items(), MOST);
            honest = 0;
            for (int c = 0; c < cousins; c++) {
                honest |= text.sign(c, 0) << c;
                int wanted = text.sign(c, 1);
                wish[c] = wanted < MOST ? wanted : NONE;
            }
        }

        int ofThing(int thing, int what) {
            if (what == 0) {
                return size[thing];
            }
            return what == 1 ? owner[thing] : kind[thing];
        }

        int ofCousin(int cousin, int what) {
            return what == 0 ? honest >> cousin & 1 : wish[cousin];
        }
    }

    /** ROOM, the AUNT's HOURS, HANDS, HOLES and what was FELT, as told. */
    private static final class Told {
        int room = 20;
        int aunt;
        int hands;
        final int[] handHour = new int[20];
        final int[] handNumber = new int[20];
        int holes;
        final int[] holeHour = new int[6];
        final int[] holeSize = new int[6];
        int felts;
        final int[] feltHour = new int[MOST];
        final int[] feltThing = new int[MOST];
        final int[] feltIs = new int[MOST];
        /** HANDS by HOURS, of like ones as told; those of an HOUR stand from its first on. */
        final int[] order = new int[20];
        final int[] first = new int[HOURS + 1];
        /** The largest HOLE of each HOUR: what the others lose, it loses too. */
        final int[] widest = new int[HOURS];

        int addHand(int hour, int cousin, int thing, int what) {
            if (!isHour(hour) || !isEighth(cousin) || !isEighth(thing) || !isBit(what)) {
                return BAD;
            }
            if (hands >= handHour.length) {
                return FULL;
            }
            handHour[hands] = hour;
            handNumber[hands] = TAKES * what + 8 * cousin + thing;
            hands++;
            return hands;
        }

        int addHole(int hour, int size) {
            if (!isHour(hour) || size < 1 || size > 9) {
                return BAD;
            }
            if (holes >= holeHour.length) {
                return FULL;
            }
            holeHour[holes] = hour;
            holeSize[holes] = size;
            holes++;
            return holes;
        }

        int addFelt(int hour, int thing, int is) {
            if (!isHour(hour) || !isEighth(thing) || !isBit(is)) {
                return BAD;
            }
            if (felts >= feltHour.length) {
                return FULL;
            }
            feltHour[felts] = hour;
            feltThing[felts] = thing;
            feltIs[felts] = is;
            felts++;
            return felts;
        }

        void arrange() {
            int many = 0;
            for (int h = 0; h < HOURS; h++) {
                first[h] = many;
                for (int k = 0; k < hands; k++) {
                    if (handHour[k] == h) {
                        order[many] = k;
                        many++;
                    }
                }
            }
            first[HOURS] = many;
            Arrays.fill(widest, 0);
            for (int k = 0; k < holes; k++) {
                int h = holeHour[k];
                widest[h] = Math.max(widest[h], holeSize[k]);
            }
        }
    }

    /** Where all is at one moment. */
    private static final class State {
        /** Where each THING is, four bits for each. */
        int place;
        /** THINGS in THE POCKET, as bits. */
        int inside;
        int load;
        /** THINGS that whoever has them TOOK in this HOUR, as bits. */
        int took;
        /** What was in THE POCKET when soup was looked for, in the HOUR ahead and in the one ahead of it. */
        int once;
        int twice;

        void become(State other) {
            place = other.place;
            inside = other.inside;
            load = other.load;
            took = other.took;
            once = other.once;
            twice = other.twice;
        }

        int placeOf(int thing) {
            return place >>> 4 * thing & 15;
        }
    }

    /** What happens in each HOUR, and how it all goes as told. */
    private static final class Hours {
        final Family family;
        final Told told;
        /** Ahead of HOUR 0. */
        final State start = new State();
        /** In each HOUR, just behind its HANDS: here one HAND more comes in. */
        final State[] midst = new State[HOURS];
        final State[] behind = new State[HOURS];
        /** HANDS that work, as bits. */
        int worked;
        private final State trial = new State();

        Hours(Family family, Told told) {
            this.family = family;
            this.told = told;
            for (int h = 0; h < HOURS; h++) {
                midst[h] = new State();
                behind[h] = new State();
            }
        }

        void replay() {
            begin();
            trial.become(start);
            worked = 0;
            for (int h = 0; h < HOURS; h++) {
                worked |= open(trial, h);
                midst[h].become(trial);
                close(trial, h, told.aunt);
                behind[h].become(trial);
            }
        }

        private void begin() {
            int place = 0;
            for (int t = 0; t < family.things; t++) {
                int owner = family.owner[t];
                place |= (owner < family.cousins ? owner : GONE) << 4 * t;
            }
            start.place = place;
        }

        /** The first part of an HOUR: who is honest, and HANDS; those that work, as bits. */
        int open(State s, int hour) {
            putBack(s);
            return tell(s, told.first[hour], told.first[hour + 1]);
        }

        /** Whoever has what was taken is the one who TOOK it: from others it comes by THE POCKET alone. */
        void putBack(State s) {
            int taken = s.took;
            s.took = 0;
            if (taken == 0 || family.honest == 0) {
                return;
            }
            for (int c = 0; c < family.cousins; c++) {
                for (int t = 0; t < family.things; t++) {
                    boolean owed = (family.honest >> c & taken >> t & 1) != 0 && family.owner[t] != c;
                    if (owed) {
                        reach(s, 8 * c + t);
                    }
                }
            }
        }

        /** HANDS of a part of the order; those that work, as bits. */
        int tell(State s, int from, int to) {
            int did = 0;
            for (int i = from; i < to; i++) {
                int hand = told.order[i];
                if (reach(s, told.handNumber[hand])) {
                    did |= 1 << hand;
                }
            }
            return did;
        }

        /** One HAND, by its number: whether it works. */
        boolean reach(State s, int number) {
            int thing = number & 7;
            int cousin = number >> 3 & 7;
            if (thing >= family.things || cousin >= family.cousins) {
                return false;
            }
            int shift = 4 * thing;
            int size = family.size[thing];
            if (number >= TAKES) {
                if ((s.inside >> thing & 1) == 0) {
                    return false;
                }
                s.place += cousin - POCKET << shift;
                s.inside -= 1 << thing;
                s.load -= size;
                s.took |= 1 << thing;
                return true;
            }
            if ((s.place >>> shift & 15) != cousin || s.load + size > told.room) {
                return false;
            }
            s.place += POCKET - cousin << shift;
            s.inside += 1 << thing;
            s.load += size;
            s.took &= ~(1 << thing);
            return true;
        }

        /** The last part of an HOUR: HOLES, soup, the AUNT in the HOURS that are given. */
        void close(State s, int hour, int aunt) {
            spill(s, s.inside & family.upTo[told.widest[hour]]);
            int now = s.inside;
            spill(s, now & s.once & s.twice & family.soup);
            s.twice = s.once;
            s.once = now;
            if ((aunt >> hour & 1) != 0) {
                sendHome(s);
            }
        }

        private void spill(State s, int lost) {
            if (lost == 0) {
                return;
            }
            for (int t = 0; t < family.things; t++) {
                if ((lost >> t & 1) != 0) {
                    s.place += GONE - POCKET << 4 * t;
                    s.inside -= 1 << t;
                    s.load -= family.size[t];
                }
            }
        }

        /** What is in THE POCKET has an OWNER that there is: all else was LOST from the start. */
        private void sendHome(State s) {
            for (int t = 0; t < family.things; t++) {
                if ((s.inside >> t & 1) != 0) {
                    s.place += family.owner[t] - POCKET << 4 * t;
                }
            }
            s.inside = 0;
            s.load = 0;
        }

        /** From just behind an HOUR's HANDS to behind another HOUR. */
        void goOn(State s, int hour, int to) {
            close(s, hour, told.aunt);
            for (int h = hour + 1; h <= to; h++) {
                open(s, h);
                close(s, h, told.aunt);
            }
        }

        int heldBy(int hour, int cousin) {
            int bits = 0;
            for (int t = 0; t < family.things; t++) {
                if (behind[hour].placeOf(t) == cousin) {
                    bits |= 1 << t;
                }
            }
            return bits;
        }

        /** COUSINS who have what they WANT, as bits. */
        int content(int hour) {
            int bits = 0;
            for (int c = 0; c < family.cousins; c++) {
                int wish = family.wish[c];
                if (wish != NONE && wish < family.things && behind[hour].placeOf(wish) == c) {
                    bits |= 1 << c;
                }
            }
            return bits;
        }

        int firstIdle() {
            for (int i = 0; i < told.hands; i++) {
                int hand = told.order[i];
                if ((worked >> hand & 1) == 0) {
                    return hand;
                }
            }
            return NONE;
        }

        int firstGone(int thing) {
            if (start.placeOf(thing) == GONE) {
                return NONE;
            }
            for (int h = 0; h < HOURS; h++) {
                if (behind[h].placeOf(thing) == GONE) {
                    return h;
                }
            }
            return NONE;
        }

        /** The chance that a frog never jumps: above (what = 0) or below (1). */
        long stayChance(int c, int thing, int hour, int what) {
            int above = 16 - c;
            int below = 16;
            for (int k = 0; k < 4 && above % 2 == 0; k++) {
                above /= 2;
                below /= 2;
            }
            int base = what == 0 ? above : below;
            boolean frog = family.kind[thing] == FROG;
            long power = 1;
            for (int h = 0; h <= hour; h++) {
                if (frog && (behind[h].inside >> thing & 1) != 0) {
                    power *= base;
                }
            }
            return power;
        }

        /** Where a THING is behind an HOUR of such a day; how many of its own HANDS work (NONE). */
        int dayBySeed(int seed, int hour, int thing) {
            boolean lots = family.things > 0 && family.cousins > 0;
            int lot = seed;
            int many = 0;
            trial.become(start);
            for (int h = 0; h <= hour; h++) {
                open(trial, h);
                if (lots) {
                    lot = nextLot(lot);
                    int cousin = drawn(lot, family.cousins);
                    lot = nextLot(lot);
                    int what = drawn(lot, family.things);
                    lot = nextLot(lot);
                    many += reach(trial, TAKES * drawn(lot, 2) + 8 * cousin + what) ? 1 : 0;
                }
                close(trial, h, told.aunt);
            }
            return thing == NONE ? many : trial.placeOf(thing);
        }

        private static int nextLot(int seed) {
            return 1103515245 * seed + 12345;
        }

        private static int drawn(int seed, int m) {
            return m > 0 ? (seed >>> 16) % m : 0;
        }
    }

    /** A plan of up to two numbers, or that there is none. */
    private static final class Row {
        int many;
        int one;
        int two;

        void plan(int many, int one, int two) {
            this.many = many;
            this.one = one;
            this.two = two;
        }

        /** How many (i = NONE), or the i-th. */
        int told(int i) {
            if (i == NONE) {
                return many;
            }
            if (i >= many) {
                return NONE;
            }
            return i == 0 ? one : two;
        }
    }

    /** LEND, SORT and HANGS. */
    private static final class Plans {
        final Family family;
        final Told told;
        final Hours hours;
        final Row lent = new Row();
        final Row sorted = new Row();
        /** For what the plans stand (NONE: for nothing). */
        private int lentFor = NONE;
        private int sortedFor = NONE;
        /** One HOUR's state behind none, one .. five HANDS of an order. */
        private final State[] trials = new State[6];
        /** THINGS (four bits for each) that some order puts elsewhere than the told one. */
        private int elsewhere;
        /** With one HOUR of the AUNT's, the first HOUR behind which THE POCKET bulges. */
        private final int[] bulge = new int[HOURS];

        Plans(Family family, Told told, Hours hours) {
            this.family = family;
            this.told = told;
            this.hours = hours;
            for (int k = 0; k < trials.length; k++) {
                trials[k] = new State();
            }
        }

        /** Something was told: no plan stands. */
        void drop() {
            lentFor = NONE;
            sortedFor = NONE;
        }

        void planLend(int cousin, int thing, int hour, int to) {
            int what = ((cousin * MOST + thing) * HOURS + hour) * HOURS + to;
            if (what == lentFor) {
                return;
            }
            lentFor = what;
            lent.plan(NONE, NONE, NONE);
            State ahead = hours.midst[hour];
            if (hours.behind[to].placeOf(thing) == cousin) {
                lent.plan(0, NONE, NONE);
            }
            if (lent.many == 0 || to < hour || ahead.placeOf(thing) == GONE) {
                return;
            }
            trials[0].become(ahead);
            int last = leastHand(cousin, thing, hour, to);
            if (last != NONE) {
                lent.plan(1, last, NONE);
            }
            for (int one = 0; one < HAND_NUMBERS && lent.many == NONE; one++) {
                trials[0].become(ahead);
                if (matters(one, thing) && hours.reach(trials[0], one)) {
                    last = leastHand(cousin, thing, hour, to);
                    if (last != NONE) {
                        lent.plan(2, one, last);
                    }
                }
            }
        }

        /**
         * The least HAND more by which, from the state in trials[0] on, the COUSIN has the THING; NONE.
         * One that does not work changes nothing, so only those that work are followed.
         */
        private int leastHand(int cousin, int thing, int hour, int to) {
            State s = trials[1];
            s.become(trials[0]);
            for (int number = 0; number < HAND_NUMBERS; number++) {
                if (matters(number, thing) && hours.reach(s, number)) {
                    hours.goOn(s, hour, to);
                    if (s.placeOf(thing) == cousin) {
                        return number;
                    }
                    s.become(trials[0]);
                }
            }
            return NONE;
        }

        /** Where all THINGS have room together none is in another's way: only HANDS on the THING itself matter. */
        private boolean matters(int number, int thing) {
            return family.bulk > told.room || (number & 7) == thing;
        }

        void planSort(int bound) {
            if (bound == sortedFor) {
                return;
            }
            sortedFor = bound;
            sorted.plan(NONE, NONE, NONE);
            int none = firstBulge(bound, 0);
            if (none == HOURS) {
                sorted.plan(0, NONE, NONE);
                return;
            }
            // an AUNT who comes behind the first bulge is too late for it
            for (int a = 0; a <= none; a++) {
                bulge[a] = firstBulge(bound, 1 << a);
                if (bulge[a] == HOURS) {
                    sorted.plan(1, a, NONE);
                    return;
                }
            }
            planTwoSortings(bound, none);
        }

        private void planTwoSortings(int bound, int none) {
            for (int a = 0; a <= none && a < HOURS; a++) {
                for (int b = a + 1; b <= bulge[a]; b++) {
                    if (firstBulge(bound, 1 << a | 1 << b) == HOURS) {
                        sorted.plan(2, a, b);
                        return;
                    }
                }
            }
        }

        /** The first HOUR behind which LOAD is above the bound, by these HOURS of the AUNT's; HOURS if there is none. */
        private int firstBulge(int bound, int aunt) {
            State s = trials[0];
            s.become(hours.start);
            for (int h = 0; h < HOURS; h++) {
                hours.open(s, h);
                hours.close(s, h, aunt);
                if (s.load > bound) {
                    return h;
                }
            }
            return HOURS;
        }

        /** THINGS that are not in the same place by all orders of an HOUR's HANDS, as bits. */
        int unsettled(int hour) {
            elsewhere = 0;
            trials[0].become(hour == 0 ? hours.start : hours.behind[hour - 1]);
            hours.putBack(trials[0]);
            order(hour, 0, 0);
            int bits = 0;
            for (int t = 0; t < family.things; t++) {
                if ((elsewhere >>> 4 * t & 15) != 0) {
                    bits |= 1 << t;
                }
            }
            return bits;
        }

        /** Each HAND that is not yet used comes next; behind the fifth the others come as told. */
        private void order(int hour, int depth, int used) {
            int from = told.first[hour];
            int many = Math.min(5, told.first[hour + 1] - from);
            if (depth >= many) {
                State s = trials[Math.min(depth, 5)];
                hours.tell(s, from + many, told.first[hour + 1]);
                hours.close(s, hour, told.aunt);
                elsewhere |= s.place ^ hours.behind[hour].place;
                return;
            }
            for (int k = 0; k < many; k++) {
                if ((used >> k & 1) == 0) {
                    State next = trials[depth + 1];
                    next.become(trials[depth]);
                    hours.reach(next, told.handNumber[told.order[from + k]]);
                    order(hour, depth + 1, used | 1 << k);
                }
            }
        }
    }

    /** WHEN, THIEF and FEEL, from what was FELT. */
    private static final class Guesses {
        final Family family;
        final Told told;
        final Hours hours;
        private final State trial = new State();
        /** What is in THE POCKET behind each HOUR, by one HAND more, as bits. */
        private final int[] seen = new int[HOURS];
        /** By how many of the HOURS that fit the THING is in THE POCKET, behind each HOUR. */
        private final int[] times = new int[HOURS];

        Guesses(Family family, Told told, Hours hours) {
            this.family = family;
            this.told = told;
            this.hours = hours;
        }

        int fittingHours(int cousin, int thing) {
            int bits = 0;
            for (int h = 0; h < HOURS; h++) {
                look(h, TAKES + 8 * cousin + thing);
                if (comesOut()) {
                    bits |= 1 << h;
                }
            }
            return bits;
        }

        int suspects(int thing) {
            int bits = 0;
            for (int c = 0; c < family.cousins; c++) {
                if (fittingHours(c, thing) != 0) {
                    bits |= 1 << c;
                }
            }
            return bits;
        }

        int bestHour(int cousin, int thing) {
            int all = 0;
            Arrays.fill(times, 0);
            for (int h = 0; h < HOURS; h++) {
                look(h, TAKES + 8 * cousin + thing);
                if (comesOut()) {
                    all++;
                    countSeen(thing);
                }
            }
            int best = 0;
            for (int h = 1; h < HOURS; h++) {
                if (Math.max(times[h], all - times[h]) < Math.max(times[best], all - times[best])) {
                    best = h;
                }
            }
            return best;
        }

        private void countSeen(int thing) {
            for (int h = 0; h < HOURS; h++) {
                times[h] += seen[h] >> thing & 1;
            }
        }

        /** Whether all that was FELT is as it is seen. */
        private boolean comesOut() {
            for (int k = 0; k < told.felts; k++) {
                if ((seen[told.feltHour[k]] >> told.feltThing[k] & 1) != told.feltIs[k]) {
                    return false;
                }
            }
            return true;
        }

        /** Goes through all HOURS with one HAND more, and keeps what is seen behind each. */
        private void look(int hour, int number) {
            trial.become(hours.midst[hour]);
            boolean works = hours.reach(trial, number);
            for (int h = 0; h < HOURS; h++) {
                if (!works || h < hour) {
                    seen[h] = hours.behind[h].inside;
                } else {
                    if (h > hour) {
                        hours.open(trial, h);
                    }
                    hours.close(trial, h, told.aunt);
                    seen[h] = trial.inside;
                }
            }
        }
    }

    /** A row of a FORM; its items are kept as ints, and cut to the FORM's bits when they are set. */
    private static final class Sheet {
        int form;
        /** NONE while it is LOST. */
        int length = NONE;
        final int[] items = new int[MOST_ITEMS];

        /** The FINDING that refuses item i, treated as of a FORM; 0 if none does. */
        int refusal(int asForm, int i) {
            if (length < 0) {
                return NULL;
            }
            if (form != asForm) {
                return CAST;
            }
            return i < 0 || i >= length ? INDEX : 0;
        }

        boolean holds(int from, int n) {
            return from >= 0 && n >= 0 && n <= length - from;
        }

        void set(int i, int v) {
            if (form == 0) {
                items[i] = (byte) v;
            } else {
                items[i] = form == 1 ? (short) v : v;
            }
        }
    }
}
