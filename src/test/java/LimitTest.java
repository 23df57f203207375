/** LIMIT: when its a is looked at, what is gone, and when its c begins. */
public final class LimitTest {
    private static final Due due = new Due("LimitTest");

    public static void main(String[] args) {
        asItBegins();
        eachSecond();
        bIsOver();
        beforeBranchesGoOn();
        aroundBeforeIn();
        doesCOnce();
        sidesAreGone();
        oneBranchOnly();
        due.end();
    }

    private static void asItBegins() {
        StepRows x = new StepRows();
        Teller t = new Teller(x);
        t.run(t.row(t.limit(t.sig(0), t.count(0), t.row(t.count(1), t.pause(1))), t.count(2)));
        x.tick(1);
        due.is("b was not begun", x.value(0), 0);
        due.is("c at once", x.value(1), 1);
        due.is("and it takes time", x.value(2), 0);
        due.is("step(0)", x.step(0), 12);
        due.is("tick(1)", x.tick(1), 0);
        due.is("value(2)", x.value(2), 1);
    }

    private static void eachSecond() {
        StepRows x = new StepRows();
        Teller t = new Teller(x);
        x.signal(0, -4);
        t.run(t.row(t.limit(t.sig(0), t.pause(50), t.count(0)), t.count(1), t.pause(5)));
        due.is("tick(10)", x.tick(10), 1);
        due.is("step(0)", x.step(0), 3);
        x.signal(0, 0);
        due.is("not before the next second", x.value(0), 0);
        due.is("tick(1)", x.tick(1), 1);
        due.is("c", x.value(0), 1);
        due.is("and on", x.value(1), 1);
        due.is("step(0)", x.step(0), 14);
    }

    private static void bIsOver() {
        StepRows x = new StepRows();
        Teller t = new Teller(x);
        x.signal(0, 1);
        t.run(t.row(t.limit(t.sig(0), t.pause(1), t.count(0)), t.count(1), t.pause(5)));
        x.tick(2);
        due.is("b was over", x.value(1), 1);
        x.signal(0, 0);
        x.tick(2);
        due.is("it is not looked at any more", x.value(0), 0);
        x.signal(0, 1);
        t.run(t.row(t.limit(t.sig(0), t.pause(1), t.count(0)), t.count(1)));
        x.tick(1);
        x.signal(0, 0);
        due.is("limits first, even if b would be over", x.tick(1), 0);
        due.is("value(0)", x.value(0), 1);
        due.is("value(1)", x.value(1), 1);
    }

    /** All limits are looked at before a branch goes on: the left one's c does not end the right one. */
    private static void beforeBranchesGoOn() {
        StepRows x = new StepRows();
        Teller t = new Teller(x);
        int left = t.limit(t.sig(0), t.pause(9), t.row(t.let(0, t.num(0)), t.count(3), t.pause(9)));
        int right = t.limit(t.val(0), t.pause(9), t.row(t.count(1), t.pause(9)));
        x.signal(0, 1);
        t.run(t.row(t.let(0, t.num(1)), t.side(left, right)));
        x.tick(1);
        x.signal(0, 0);
        x.tick(1);
        due.is("the left one's c", x.value(3), 1);
        due.is("the right one was looked at before", x.value(1), 0);
        x.tick(1);
        due.is("and in the next second", x.value(1), 1);
    }

    private static void aroundBeforeIn() {
        StepRows x = new StepRows();
        Teller t = new Teller(x);
        int inner = t.limit(t.div(t.num(1), t.sig(0)), t.pause(9), t.count(1));
        x.signal(0, 1);
        int prog = t.make(t.row(t.limit(t.sig(0), t.repeat(t.num(2), inner), t.count(0)), t.count(2)));
        x.start(prog);
        x.tick(1);
        x.signal(0, 0);
        due.is("the inner one is gone and not looked at", x.tick(1), 0);
        due.is("value(0)", x.value(0), 1);
        due.is("value(1)", x.value(1), 0);
        due.is("value(2)", x.value(2), 1);
    }

    private static void doesCOnce() {
        StepRows x = new StepRows();
        Teller t = new Teller(x);
        x.signal(0, 1);
        t.run(t.limit(t.sig(0), t.pause(9), t.limit(t.sig(1), t.pause(3), t.row(t.count(0), t.pause(9)))));
        x.tick(1);
        x.signal(0, 0);
        x.signal(1, 1);
        x.tick(1);
        due.is("c is a LIMIT that does its b", x.step(0), 6);
        x.tick(1);
        due.is("the outer one is not looked at while it does c", x.step(0), 6);
        x.signal(1, 0);
        x.tick(1);
        due.is("the inner one is", x.value(0), 1);
        due.is("step(0)", x.step(0), 13);
    }

    private static void sidesAreGone() {
        StepRows x = new StepRows();
        Teller t = new Teller(x);
        int wait = t.pause(99);
        int b = t.side(t.side(wait, t.row(wait, t.count(0))), t.repeat(t.num(3), t.side(wait, wait)));
        x.signal(0, 1);
        t.run(t.row(t.limit(t.sig(0), b, t.out(0, t.num(5))), t.side(wait, wait)));
        x.tick(1);
        due.is("four stand", x.step(3) >= 0 && x.step(4) < 0, true);
        x.signal(0, 0);
        x.tick(1);
        due.is("two stand", x.step(1) >= 0 && x.step(2) < 0, true);
        due.is("output(0)", x.output(0), 5);
        due.is("value(0)", x.value(0), 0);
    }

    private static void oneBranchOnly() {
        StepRows x = new StepRows();
        Teller t = new Teller(x);
        int wait = t.pause(9);
        // 0 SIDE 1 LIMIT 2 3 WAIT 4 5 WAIT 6 7 LIMIT 8 9 WAIT 10 11 WAIT 12
        int all = t.side(t.limit(t.sig(0), wait, wait), t.limit(t.sig(1), wait, wait));
        x.signal(0, 1);
        x.signal(1, 1);
        t.run(all);
        x.tick(1);
        due.is("left", x.step(0), 3);
        due.is("right", x.step(1), 9);
        x.signal(1, 0);
        x.tick(1);
        due.is("left", x.step(0), 3);
        due.is("right does c", x.step(1), 11);
        x.signal(0, 0);
        x.tick(1);
        due.is("left does c", x.step(0), 5);
        due.is("right", x.step(1), 11);
    }
}
