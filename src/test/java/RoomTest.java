import java.lang.management.ManagementFactory;

/** All calls of one run live in one room that is never cleaned: what they make is counted here, in bytes. */
public final class RoomTest {
    private static final com.sun.management.ThreadMXBean BEAN =
        (com.sun.management.ThreadMXBean) ManagementFactory.getThreadMXBean();
    private static final Due due = new Due("RoomTest");

    public static void main(String[] args) {
        new StepRows();
        long before = made();
        StepRows x = new StepRows();
        most("a new object", made() - before, 40000);
        before = made();
        Teller t = new Teller(x);
        int again = t.row(t.pause(1), t.when(t.less(t.val(0), t.num(53)), t.call(0), t.pause(9999)));
        int leaf = t.call(0);
        int two = t.side(leaf, leaf);
        int four = t.side(two, two);
        int eight = t.side(four, four);
        int sixteen = t.side(eight, eight);
        int all = t.side(t.side(t.side(sixteen, sixteen), eight), t.side(eight, leaf));
        int clock = t.repeat(t.num(9999), t.row(t.count(0), t.pause(1)));
        t.run(t.row(t.bind(0, again), t.side(clock, all)));
        due.is("tick(100)", x.tick(100), 1);
        for (int k = 0; k < 8; k++) {
            due.is("save()", x.save(), k);
        }
        large(t);
        most("programs, frames and saves, as large as they get", made() - before, 2500000);
        before = made();
        for (int k = 0; k < 20; k++) {
            x.back(k % 8);
            x.tick(20);
            x.start(0);
            x.tick(60);
            x.make(all);
            x.save();
            x.leaf(9, 9);
            x.swap(3);
        }
        most("20 times what may not make anything", made() - before, 2000);
        due.end();
    }

    private static void large(Teller t) {
        int one = t.num(1);
        int sum = one;
        for (int k = 0; k < 240; k++) {
            sum = t.op(k % 3, sum, one);
        }
        for (int k = 1; k < 20; k++) {
            due.is("make", t.make(t.let(k % 16, k < 16 ? sum : t.add(sum, one))) > 0, true);
        }
    }

    private static long made() {
        return BEAN.getThreadAllocatedBytes(Thread.currentThread().getId());
    }

    private static void most(String what, long bytes, long most) {
        System.out.println("RoomTest: " + what + ": " + bytes + " bytes");
        due.is(what + ": " + bytes + " bytes, no more than " + most, bytes <= most, true);
    }
}
