import java.lang.management.ManagementFactory;

/** All calls of a run live in one room: the dearest calls make no objects, and an object is small. */
public final class RoomTest {
    private static final com.sun.management.ThreadMXBean BEAN = (com.sun.management.ThreadMXBean) ManagementFactory.getThreadMXBean();

    public static void main(String[] args) {
        SharedPockets x = Due.with("90s;91o;92f;93s;94o;95f;96s;97o", "h1;o0;h.;o7;h2;h4;o6;h5");
        for (int k = 0; k < 20; k++) {
            x.hand(k / 4, k % 8, k % 8, k / 8 % 2);
        }
        x.sheet(0, 0, 60);
        round(x, 1);
        long before = BEAN.getThreadAllocatedBytes(Thread.currentThread().getId());
        for (int k = 0; k < 20; k++) {
            round(x, k);
        }
        long made = BEAN.getThreadAllocatedBytes(Thread.currentThread().getId()) - before;
        if (made >= 4000) {
            System.out.println(made + " bytes were made by twenty rounds of calls");
        }
        Due.is("calls make no objects", made < 4000 ? 1 : 0, 1);
        before = BEAN.getThreadAllocatedBytes(Thread.currentThread().getId());
        SharedPockets[] many = new SharedPockets[100];
        for (int k = 0; k < many.length; k++) {
            many[k] = new SharedPockets();
        }
        made = BEAN.getThreadAllocatedBytes(Thread.currentThread().getId()) - before;
        if (made >= 1_200_000) {
            System.out.println(made + " bytes were made by a hundred objects");
        }
        Due.is("an object is small", made < 1_200_000 ? 1 : 0, 1);
        Due.is("the last is there", many[99].count(0), 0);
        Due.end();
    }

    private static void round(SharedPockets x, int k) {
        x.room(20 + k % 2);
        x.sheet(0, k % 3, 60);
        x.write(1, 0);
        x.copy(0, 0, 0, 1, 20);
        for (int t = 0; t < 8; t++) {
            x.lend(t, 7 - t, 2, 9, -1);
            x.thief(t);
            x.feel(t, t);
            x.jumps(3, t, 12, 0);
            x.day(k, 23, t);
            x.went(t);
        }
        for (int h = 0; h < 24; h++) {
            x.hangs(h);
            x.happy(h);
        }
        x.sort(k, -1);
        x.undo(0);
        x.type(0, 'o');
        x.digest();
    }
}
