import java.util.Random;

/** Random runs of calls, each answered by the class and by the document's plainest form (Oracle). */
public final class OracleTest {
    private final Random random;
    private final SharedPockets x = new SharedPockets();
    private final Oracle o = new Oracle();
    private final String run;
    private int things;
    private int cousins;

    private OracleTest(long seed) {
        random = new Random(seed);
        run = "run " + seed + ": ";
    }

    public static void main(String[] args) {
        for (int seed = 0; seed < 400; seed++) {
            new OracleTest(seed).mixedRun();
        }
        for (int seed = 0; seed < 60; seed++) {
            new OracleTest(10_000 + seed).deepRun();
        }
        Due.end();
    }

    /** Any call with any number, right ones more often than wrong ones. */
    private void mixedRun() {
        typeFamily(1 + random.nextInt(4), 1 + random.nextInt(4));
        for (int k = 0; k < 120; k++) {
            int act = random.nextInt(20);
            if (act < 7) {
                change();
            } else if (act < 16) {
                ask();
            } else {
                sheetCall();
            }
        }
        compare("digest()", x.digest(), o.digest());
    }

    /** Many hands in few hours, and then every question about them. */
    private void deepRun() {
        typeFamily(2 + random.nextInt(4), 2 + random.nextInt(3));
        int span = 1 + random.nextInt(6);
        int from = random.nextInt(24 - span);
        if (random.nextInt(3) == 0) {
            int v = 5 + random.nextInt(20);
            compare("room", x.room(v), o.room(v));
        }
        int many = 6 + random.nextInt(15);
        for (int k = 0; k < many; k++) {
            int hour = from + random.nextInt(span);
            int c = random.nextInt(cousins);
            int t = random.nextInt(things);
            int what = random.nextInt(2);
            compare("hand", x.hand(hour, c, t, what), o.hand(hour, c, t, what));
        }
        for (int k = random.nextInt(3); k > 0; k--) {
            int hour = from + random.nextInt(span);
            int size = 1 + random.nextInt(9);
            compare("hole", x.hole(hour, size), o.hole(hour, size));
        }
        int hours = random.nextInt(2) == 0 ? 0 : 1 << from + random.nextInt(span);
        compare("aunt", x.aunt(hours), o.aunt(hours));
        for (int k = random.nextInt(3); k > 0; k--) {
            feelSomething();
        }
        for (int h = 0; h < 24; h++) {
            askHour(h);
        }
        for (int t = 0; t < things; t++) {
            askThing(t, from, span);
        }
        for (int bound = 0; bound < 30; bound += 1 + random.nextInt(5)) {
            for (int i = -1; i <= 1; i++) {
                compare("sort(" + bound + ", " + i + ")", x.sort(bound, i), o.sort(bound, i));
            }
        }
        compare("digest()", x.digest(), o.digest());
    }

    private void typeFamily(int n, int m) {
        StringBuilder t = new StringBuilder();
        for (int k = 0; k < n; k++) {
            t.append(k == 0 ? "" : ";").append(1 + random.nextInt(9)).append(random.nextInt(12) == 0 ? random.nextInt(8) : random.nextInt(m));
            t.append("osfs".charAt(random.nextInt(4)));
        }
        StringBuilder c = new StringBuilder();
        for (int k = 0; k < m; k++) {
            c.append(k == 0 ? "" : ";").append("ohh".charAt(random.nextInt(3))).append(random.nextInt(5) == 0 ? "." : "" + random.nextInt(n));
        }
        for (int i = 0; i < t.length(); i++) {
            compare("type", x.type(0, t.charAt(i)), o.type(0, t.charAt(i)));
        }
        for (int i = 0; i < c.length(); i++) {
            compare("type", x.type(1, c.charAt(i)), o.type(1, c.charAt(i)));
        }
        things = n;
        cousins = m;
    }

    private void feelSomething() {
        int hour = hour();
        int t = random.nextInt(8) == 0 ? number(0, 7) : number(0, things - 1);
        int is = x.where(hour, t) == 8 ? 1 : 0;
        if (random.nextInt(4) == 0) {
            is = number(0, 1);
        }
        compare("felt(" + hour + ", " + t + ", " + is + ")", x.felt(hour, t, is), o.felt(hour, t, is));
    }

    private void askHour(int h) {
        compare("load(" + h + ")", x.load(h), o.load(h));
        compare("happy(" + h + ")", x.happy(h), o.happy(h));
        compare("hangs(" + h + ")", x.hangs(h), o.hangs(h));
        for (int t = 0; t < things; t++) {
            compare("where(" + h + ", " + t + ")", x.where(h, t), o.where(h, t));
        }
    }

    private void askThing(int t, int from, int span) {
        for (int c = 0; c < cousins; c++) {
            int hour = Math.min(23, from + random.nextInt(span + 1));
            int behind = Math.min(23, hour + random.nextInt(4));
            for (int i = -1; i <= 1; i++) {
                String call = "lend(" + c + ", " + t + ", " + hour + ", " + behind + ", " + i + ")";
                compare(call, x.lend(c, t, hour, behind, i), o.lend(c, t, hour, behind, i));
            }
            compare("when(" + c + ", " + t + ")", x.when(c, t), o.when(c, t));
            compare("feel(" + c + ", " + t + ")", x.feel(c, t), o.feel(c, t));
        }
        compare("thief(" + t + ")", x.thief(t), o.thief(t));
        compare("went(" + t + ")", x.went(t), o.went(t));
        int seed = random.nextInt();
        compare("day(" + seed + ", 23, " + t + ")", x.day(seed, 23, t), o.day(seed, 23, t));
        compare("day(" + seed + ", 23, -1)", x.day(seed, 23, -1), o.day(seed, 23, -1));
    }

    private void change() {
        int a = number(0, 1);
        int hour = hour();
        int c = number(0, Math.max(cousins - 1, 0));
        int t = number(0, Math.max(things - 1, 0));
        switch (random.nextInt(12)) {
            case 0 -> {
                int b = random.nextInt(3) == 0 ? number(0, 255) : "10osfh.;27".charAt(random.nextInt(10));
                compare("type(" + a + ", " + b + ")", x.type(a, b), o.type(a, b));
            }
            case 1 -> compare("undo(" + a + ")", x.undo(a), o.undo(a));
            case 2 -> {
                if (random.nextInt(8) == 0) {
                    compare("wipe(" + a + ")", x.wipe(a), o.wipe(a));
                }
            }
            case 3 -> {
                int v = number(1, 72);
                compare("room(" + v + ")", x.room(v), o.room(v));
            }
            case 4 -> {
                int hours = random.nextInt(3) == 0 ? number(0, 0xFFFFFF) : 1 << random.nextInt(24);
                compare("aunt(" + hours + ")", x.aunt(hours), o.aunt(hours));
            }
            case 5 -> {
                int size = number(1, 9);
                compare("hole(" + hour + ", " + size + ")", x.hole(hour, size), o.hole(hour, size));
            }
            case 6 -> compare("back(" + a + ")", x.back(a), o.back(a));
            case 7 -> feelSomething();
            case 8 -> {
                if (random.nextInt(4) == 0) {
                    compare("forget()", x.forget(), o.forget());
                }
            }
            default -> compare("hand(" + hour + ", " + c + ", " + t + ", " + a + ")", x.hand(hour, c, t, a), o.hand(hour, c, t, a));
        }
    }

    private void ask() {
        int hour = hour();
        int c = number(0, Math.max(cousins - 1, 0));
        int t = number(0, Math.max(things - 1, 0));
        int i = number(-1, 1);
        int a = number(0, 1);
        switch (random.nextInt(20)) {
            case 0 -> compare("fault(" + a + ")", x.fault(a), o.fault(a));
            case 1 -> compare("thing(" + t + ", " + (i + 1) + ")", x.thing(t, i + 1), o.thing(t, i + 1));
            case 2 -> compare("cousin(" + c + ", " + a + ")", x.cousin(c, a), o.cousin(c, a));
            case 3 -> compare("where(" + hour + ", " + t + ")", x.where(hour, t), o.where(hour, t));
            case 4 -> compare("has(" + hour + ", " + c + ")", x.has(hour, c), o.has(hour, c));
            case 5 -> compare("load(" + hour + ")", x.load(hour), o.load(hour));
            case 6 -> compare("happy(" + hour + ")", x.happy(hour), o.happy(hour));
            case 7 -> {
                int k = number(0, 20);
                compare("works(" + k + ")", x.works(k), o.works(k));
            }
            case 8 -> compare("fails()", x.fails(), o.fails());
            case 9 -> compare("went(" + t + ")", x.went(t), o.went(t));
            case 10, 11 -> {
                int behind = random.nextInt(3) == 0 ? hour() : hour;
                compare("lend(" + c + ", " + t + ", " + hour + ", " + behind + ", " + i + ")", x.lend(c, t, hour, behind, i), o.lend(c, t, hour, behind, i));
            }
            case 12 -> compare("hangs(" + hour + ")", x.hangs(hour), o.hangs(hour));
            case 13 -> {
                int bound = random.nextInt(4) == 0 ? number(0, 72) : random.nextInt(20);
                compare("sort(" + bound + ", " + i + ")", x.sort(bound, i), o.sort(bound, i));
            }
            case 14 -> compare("when(" + c + ", " + t + ")", x.when(c, t), o.when(c, t));
            case 15 -> compare("thief(" + t + ")", x.thief(t), o.thief(t));
            case 16 -> compare("feel(" + c + ", " + t + ")", x.feel(c, t), o.feel(c, t));
            case 17 -> {
                int k = number(0, 16);
                int to = number(0, 12);
                compare("jumps(" + k + ", " + t + ", " + to + ", " + a + ")", x.jumps(k, t, to, a), o.jumps(k, t, to, a));
            }
            case 18 -> {
                int seed = random.nextInt();
                int which = random.nextBoolean() ? -1 : t;
                compare("day(" + seed + ", " + hour + ", " + which + ")", x.day(seed, hour, which), o.day(seed, hour, which));
            }
            default -> {
                int what = number(0, 8);
                compare("count(" + what + ")", x.count(what), o.count(what));
            }
        }
    }

    private void sheetCall() {
        int s = random.nextInt(12) == 0 ? number(0, 3) : random.nextInt(2);
        int u = random.nextInt(12) == 0 ? number(0, 3) : random.nextInt(2);
        int form = random.nextInt(3) == 0 ? number(0, 2) : 0;
        int i = number(0, 12);
        int j = number(0, 12);
        int v = random.nextInt(3) == 0 ? random.nextInt() : number(0, 7);
        int a = number(0, 1);
        switch (random.nextInt(12)) {
            case 0, 1 -> {
                int n = random.nextInt(3) == 0 ? number(-1, 60) : number(0, 20);
                compare("sheet(" + s + ", " + form + ", " + n + ")", x.sheet(s, form, n), o.sheet(s, form, n));
            }
            case 2 -> {
                if (random.nextInt(4) == 0) {
                    compare("lose(" + s + ")", x.lose(s), o.lose(s));
                }
            }
            case 3, 4, 5 -> compare("put(" + s + ", " + form + ", " + i + ", " + v + ")", x.put(s, form, i, v), o.put(s, form, i, v));
            case 6, 7 -> compare("get(" + s + ", " + form + ", " + i + ")", x.get(s, form, i), o.get(s, form, i));
            case 8 -> {
                int n = number(0, 12);
                compare("copy(" + s + ", " + i + ", " + u + ", " + j + ", " + n + ")", x.copy(s, i, u, j, n), o.copy(s, i, u, j, n));
            }
            case 9 -> compare("write(" + a + ", " + s + ")", x.write(a, s), o.write(a, s));
            case 10 -> compare("read(" + s + ")", x.read(s), o.read(s));
            default -> compare("count(8)", x.count(8), o.count(8));
        }
    }

    private int hour() {
        return random.nextInt(3) == 0 ? number(0, 23) : random.nextInt(6);
    }

    /** Mostly within these bounds, now and then just or far outside them. */
    private int number(int from, int to) {
        int kind = random.nextInt(40);
        if (kind == 0) {
            return from - 1;
        }
        if (kind == 1) {
            return to + 1;
        }
        if (kind == 2) {
            return random.nextInt();
        }
        if (kind == 3) {
            return random.nextBoolean() ? Integer.MIN_VALUE : Integer.MAX_VALUE;
        }
        return from + random.nextInt(to - from + 1);
    }

    private void compare(String call, long got, long want) {
        Due.is(run + call, got, want);
    }
}
