/** Promises 5 to 9 and 14: signal, start, tick, output, step, value; and what statements do. */
public final class RunTest {
    private static final Due due = new Due("RunTest");

    public static void main(String[] args) {
        signals();
        starts();
        ticks();
        outputsAndValues();
        expressions();
        waits();
        ramps();
        rampsSeveral();
        ifs();
        repeats();
        sides();
        sidesInSides();
        calls();
        callsBoundAnew();
        due.end();
    }

    private static void signals() {
        StepRows x = new StepRows();
        Teller t = new Teller(x);
        for (int k : new int[] {-1, 16, Integer.MAX_VALUE, Integer.MIN_VALUE}) {
            due.is("signal(" + k + ")", x.signal(k, 1), false);
        }
        due.is("signal(0)", x.signal(0, 4), true);
        due.is("signal(15)", x.signal(15, Long.MIN_VALUE), true);
        int prog = t.make(t.repeat(t.num(99), t.row(t.out(0, t.sig(0)), t.out(1, t.sig(15)), t.pause(1))));
        x.start(prog);
        x.tick(1);
        due.is("output(0)", x.output(0), 4);
        due.is("output(1)", x.output(1), Long.MIN_VALUE);
        x.signal(0, 5);
        due.is("asked in the next second", x.output(0), 4);
        x.tick(1);
        due.is("output(0)", x.output(0), 5);
        x.start(prog);
        x.tick(1);
        due.is("a start leaves it", x.output(0), 5);
    }

    private static void starts() {
        StepRows x = new StepRows();
        Teller t = new Teller(x);
        int a = t.make(t.row(t.bind(0, t.count(0)), t.count(1), t.out(3, t.num(7)), t.phase(t.pause(2)),
            t.count(2)));
        int b = t.make(t.row(t.phase(t.pause(1)), t.out(0, t.num(1)), t.call(0)));
        x.start(a);
        x.tick(1);
        x.swap(b);
        due.is("value(1)", x.value(1), 1);
        due.is("told(3)", x.told(3), 1);
        due.is("start(9): refused", x.start(9), -1);
        due.is("start(-1): refused", x.start(-1), -1);
        due.is("the run is as it was", x.told(0), 1);
        due.is("the swap waits", x.told(3), 1);
        due.is("start(b)", x.start(b), 0);
        due.is("told(0)", x.told(0), 0);
        due.is("told(1)", x.told(1), 0);
        due.is("told(2)", x.told(2), b);
        due.is("told(3)", x.told(3), 0);
        due.is("value(1)", x.value(1), 0);
        due.is("output(3)", x.output(3), 0);
        due.is("tick(9)", x.tick(9), 2);
        due.is("the name means nothing", x.alarm(0, 1), 3);
        due.is("start(a)", x.start(a), 0);
        due.is("no alarms", x.alarm(0, 0), -1);
        due.is("output(0)", x.output(0), 0);
        due.is("tick(0)", x.tick(0), 1);
    }

    private static void ticks() {
        StepRows x = new StepRows();
        Teller t = new Teller(x);
        t.run(t.pause(10005));
        due.is("tick(-1)", x.tick(-1), -1);
        due.is("tick(10001)", x.tick(10001), -1);
        due.is("tick(MIN)", x.tick(Integer.MIN_VALUE), -1);
        due.is("nothing was done", x.told(0), 0);
        due.is("tick(0)", x.tick(0), 1);
        due.is("told(0)", x.told(0), 0);
        due.is("tick(10000)", x.tick(10000), 1);
        due.is("told(0)", x.told(0), 10000);
        due.is("tick(5)", x.tick(5), 1);
        due.is("tick(10000)", x.tick(10000), 0);
        due.is("no more seconds than it has", x.told(0), 10006);
        due.is("tick(7)", x.tick(7), 0);
        due.is("told(0)", x.told(0), 10006);
        due.is("step(0)", x.step(0), -1);
        t.run(t.out(0, t.div(t.num(1), t.num(0))));
        due.is("tick(3)", x.tick(3), 2);
        due.is("told(0)", x.told(0), 1);
        due.is("tick(0)", x.tick(0), 2);
    }

    private static void outputsAndValues() {
        StepRows x = new StepRows();
        Teller t = new Teller(x);
        int all = t.pause(1);
        for (int k = 0; k < 16; k++) {
            all = t.row(t.let(k, t.num(100 + k)), all);
        }
        for (int k = 0; k < 8; k++) {
            all = t.row(t.out(k, t.num(200 + k)), all);
        }
        t.run(all);
        due.is("second 0 is not done yet", x.output(7), 0);
        x.tick(1);
        for (int k = -2; k < 18; k++) {
            due.is("output(" + k + ")", x.output(k), k >= 0 && k < 8 ? 200 + k : 0);
            due.is("value(" + k + ")", x.value(k), k >= 0 && k < 16 ? 100 + k : 0);
        }
        x.tick(1);
        due.is("an ended run's output", x.output(7), 207);
        due.is("an ended run's value", x.value(15), 115);
    }

    private static void expressions() {
        StepRows x = new StepRows();
        Teller t = new Teller(x);
        long lo = Long.MIN_VALUE;
        long hi = Long.MAX_VALUE;
        long[][] asked = {
            {0, hi, 1, lo}, {0, -3, 5, 2}, {1, lo, 1, hi}, {1, 3, 5, -2}, {2, hi, 2, -2}, {2, -3, 5, -15},
            {3, 7, 2, 3}, {3, -7, 2, -3}, {3, 7, -2, -3}, {3, -7, -2, 3}, {3, lo, -1, lo}, {3, 0, 5, 0},
            {4, 1, 2, 1}, {4, 2, 2, 0}, {4, 3, 2, 0}, {4, lo, hi, 1}, {5, 2, 2, 1}, {5, 2, 3, 0}, {5, lo, hi, 0},
        };
        for (long[] q : asked) {
            StepRows y = new StepRows();
            Teller u = new Teller(y);
            u.run(u.out(0, u.op((int) q[0], u.num(q[1]), u.num(q[2]))));
            due.is("tick(1)", y.tick(1), 0);
            due.is(q[1] + " " + q[0] + " " + q[2], y.output(0), q[3]);
        }
        for (int i = 0; i < 10; i++) {
            t.run(t.let(2, t.tab(t.num(i))));
            due.is("tick(1)", x.tick(1), 0);
            due.is("TABLE of " + i, x.value(2), x.table(i));
        }
    }

    private static void waits() {
        for (long n : new long[] {0, -1, Long.MIN_VALUE}) {
            StepRows x = new StepRows();
            Teller t = new Teller(x);
            t.run(t.row(t.pause(n), t.count(0)));
            due.is("WAIT " + n + ": over at once", x.tick(1), 0);
            due.is("value(0)", x.value(0), 1);
            due.is("told(0)", x.told(0), 1);
        }
        StepRows x = new StepRows();
        Teller t = new Teller(x);
        t.run(t.row(t.await(t.sig(0)), t.pause(1), t.count(0), t.pause(Long.MAX_VALUE)));
        x.signal(0, 2);
        x.tick(1);
        x.signal(0, 9);
        due.is("step", x.step(0), 1);
        x.tick(1);
        due.is("step", x.step(0), 1);
        x.tick(1);
        due.is("2, as told when it began", x.step(0), 4);
        due.is("value(0)", x.value(0), 0);
        x.tick(1);
        due.is("value(0)", x.value(0), 1);
        due.is("tick(10000)", x.tick(10000), 1);
        due.is("step", x.step(0), 11);
        due.is("step(1)", x.step(1), -1);
    }

    private static void ramps() {
        StepRows x = new StepRows();
        Teller t = new Teller(x);
        t.run(t.row(t.out(2, t.num(10)), t.ramp(2, t.sig(1), t.sig(2)), t.count(0), t.pause(1)));
        x.signal(1, -1);
        x.signal(2, 4);
        long[] want = {10, 10 - 11 / 4, 10 - 22 / 4, 10 - 33 / 4, -1};
        for (int k = 0; k < 5; k++) {
            due.is("tick(1)", x.tick(1), 1);
            due.is("output(2) after " + k, x.output(2), want[k]);
            due.is("over after 4", x.value(0), k == 4 ? 1 : 0);
            x.signal(1, 500);
            x.signal(2, 1);
        }
        for (long n : new long[] {0, -5}) {
            t.run(t.row(t.ramp(1, t.num(8), t.num(n)), t.count(0)));
            due.is("RAMP in " + n, x.tick(1), 0);
            due.is("output(1)", x.output(1), 8);
            due.is("value(0)", x.value(0), 1);
        }
        long lo = Long.MIN_VALUE;
        long hi = Long.MAX_VALUE;
        t.run(t.row(t.out(0, t.num(lo)), t.ramp(0, t.num(hi), t.num(3))));
        x.tick(2);
        due.is("hi - lo wraps to -1; -1 * 1 / 3", x.output(0), lo);
        x.tick(1);
        due.is("-1 * 2 / 3", x.output(0), lo);
        due.is("tick(1)", x.tick(1), 0);
        due.is("at the end it is there", x.output(0), hi);
    }

    /** Each sets the output in its turn, the left one first; and an OUT between two seconds is set over. */
    private static void rampsSeveral() {
        StepRows x = new StepRows();
        Teller t = new Teller(x);
        t.run(t.side(t.ramp(0, t.num(100), t.num(10)), t.row(t.pause(2), t.ramp(0, t.num(0), t.num(4)))));
        long[] want = {0, 10, 20, 20 - 5, 20 - 10, 20 - 15, 0, 70, 80, 90, 100};
        for (int k = 0; k < want.length; k++) {
            due.is("tick", x.tick(1), k == 10 ? 0 : 1);
            due.is("second " + k, x.output(0), want[k]);
        }
        t.run(t.side(t.ramp(1, t.num(10), t.num(5)), t.row(t.pause(1), t.out(1, t.num(77)), t.pause(9))));
        x.tick(2);
        due.is("output(1)", x.output(1), 77);
        x.tick(1);
        due.is("by w as it was at its beginning", x.output(1), 4);
    }

    private static void ifs() {
        StepRows x = new StepRows();
        Teller t = new Teller(x);
        int a = t.make(t.row(t.when(t.sig(0), t.count(0), t.count(1)), t.when(t.sig(0), t.count(2), -1), t.count(3)));
        long[] conditions = {0, 1, -1, Long.MIN_VALUE, 1L << 32};
        for (long c : conditions) {
            x.signal(0, c);
            x.start(a);
            due.is("tick(1)", x.tick(1), 0);
            due.is("then", x.value(0), c == 0 ? 0 : 1);
            due.is("else", x.value(1), c == 0 ? 1 : 0);
            due.is("no else", x.value(2), c == 0 ? 0 : 1);
            due.is("behind", x.value(3), 1);
        }
    }

    private static void repeats() {
        for (long n : new long[] {0, -1, Long.MIN_VALUE}) {
            StepRows x = new StepRows();
            Teller t = new Teller(x);
            t.run(t.row(t.repeat(t.num(n), t.count(0)), t.count(1)));
            due.is("REPEAT " + n, x.tick(1), 0);
            due.is("value(0)", x.value(0), 0);
            due.is("value(1)", x.value(1), 1);
        }
        StepRows x = new StepRows();
        Teller t = new Teller(x);
        t.run(t.repeat(t.sig(0), t.row(t.count(0), t.repeat(t.num(2), t.count(1)), t.pause(1))));
        x.signal(0, 3);
        for (int k = 1; k <= 3; k++) {
            due.is("tick(1)", x.tick(1), 1);
            x.signal(0, 50);
            due.is("value(0)", x.value(0), k);
            due.is("value(1)", x.value(1), 2 * k);
        }
        due.is("reckoned once", x.tick(1), 0);
        due.is("value(0)", x.value(0), 3);
        t.run(t.repeat(t.num(Long.MAX_VALUE), t.row(t.count(0), t.pause(1))));
        due.is("tick(5000)", x.tick(5000), 1);
        due.is("value(0)", x.value(0), 5000);
    }

    private static void sides() {
        StepRows x = new StepRows();
        Teller t = new Teller(x);
        // value 0 gets a digit from each statement, so that it tells their order
        int left = t.row(t.mark(1), t.pause(1), t.mark(3), t.pause(2), t.mark(6));
        int right = t.row(t.mark(2), t.pause(1), t.mark(4), t.pause(1), t.mark(5));
        t.run(t.row(t.side(left, right), t.mark(7)));
        x.tick(1);
        due.is("second 0", x.value(0), 12);
        due.is("two stand", x.step(1) > x.step(0) && x.step(0) > 0, true);
        due.is("not a third", x.step(2), -1);
        x.tick(1);
        due.is("second 1", x.value(0), 1234);
        x.tick(1);
        due.is("second 2", x.value(0), 12345);
        due.is("the right one is over", x.step(1), -1);
        due.is("the left one stands", x.step(0) > 0, true);
        due.is("tick(1)", x.tick(1), 0);
        due.is("second 3", x.value(0), 1234567);
        t.run(t.row(t.side(t.mark(1), t.mark(2)), t.mark(3)));
        due.is("both over at once", x.tick(1), 0);
        due.is("value(0)", x.value(0), 123);
    }

    /** What follows an inner SIDE comes before the outer one's right branch. */
    private static void sidesInSides() {
        StepRows x = new StepRows();
        Teller t = new Teller(x);
        int inner = t.row(t.side(t.row(t.pause(1), t.mark(1)), t.row(t.pause(1), t.mark(2))), t.mark(3),
            t.pause(1));
        int outer = t.row(t.side(inner, t.row(t.pause(1), t.mark(4), t.pause(5))), t.mark(9));
        t.run(outer);
        x.tick(1);
        due.is("value(0)", x.value(0), 0);
        due.is("three stand", x.step(2) >= 0 && x.step(3) < 0, true);
        x.tick(1);
        due.is("value(0)", x.value(0), 1234);
        due.is("two stand", x.step(1) >= 0 && x.step(2) < 0, true);
        x.tick(1);
        due.is("one stands", x.step(0) >= 0 && x.step(1) < 0, true);
        due.is("tick(4)", x.tick(4), 0);
        due.is("value(0)", x.value(0), 12349);
    }

    private static void calls() {
        StepRows x = new StepRows();
        Teller t = new Teller(x);
        t.run(t.row(t.bind(7, t.row(t.count(0), t.pause(1))), t.call(7), t.count(1), t.call(7), t.count(1)));
        x.tick(1);
        due.is("a BIND does nothing but bind", x.value(0), 1);
        due.is("it stands in what the name means", x.step(0), 7);
        due.is("value(1)", x.value(1), 0);
        x.tick(1);
        due.is("value(0)", x.value(0), 2);
        due.is("value(1)", x.value(1), 1);
        due.is("step(0)", x.step(0), 7);
        due.is("tick(1)", x.tick(1), 0);
        due.is("value(1)", x.value(1), 2);
    }

    /** A call that has begun does what the name meant then. */
    private static void callsBoundAnew() {
        StepRows x = new StepRows();
        Teller t = new Teller(x);
        int first = t.row(t.count(0), t.bind(0, t.count(1)), t.pause(1), t.count(0));
        t.run(t.row(t.bind(0, first), t.side(t.row(t.call(0), t.call(0)), t.call(0)), t.call(0)));
        x.tick(1);
        due.is("value(0)", x.value(0), 1);
        due.is("the other branch has the new meaning", x.value(1), 1);
        due.is("tick(1)", x.tick(1), 0);
        due.is("value(0)", x.value(0), 2);
        due.is("value(1)", x.value(1), 3);
    }
}
