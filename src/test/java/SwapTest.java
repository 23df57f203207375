/** Promises 13 and 17: swap, told; phases and editions. */
public final class SwapTest {
    private static final Due due = new Due("SwapTest");

    public static void main(String[] args) {
        refused();
        phasesOver();
        atTheEndOfAPhase();
        whateverWaited();
        notSoMany();
        atTheVeryEnd();
        inAllPrograms();
        namesMeanNothing();
        countedOn();
        faultsInTheOther();
        waitsOn();
        toItself();
        due.end();
    }

    private static void refused() {
        StepRows x = new StepRows();
        Teller t = new Teller(x);
        int p = t.make(t.pause(1));
        due.is("swap without a run", x.swap(p), 1);
        x.start(p);
        for (int k : new int[] {-1, 1, Integer.MAX_VALUE, Integer.MIN_VALUE}) {
            due.is("swap(" + k + ")", x.swap(k), 1);
        }
        due.is("told(3)", x.told(3), 0);
        due.is("swap(0)", x.swap(0), 0);
        due.is("told(3)", x.told(3), 1);
        due.is("swap(7)", x.swap(7), 1);
        due.is("the other still waits", x.told(3), 1);
        due.is("tick(2)", x.tick(2), 0);
        due.is("swap in an ended run", x.swap(p), 1);
        x.start(t.make(t.call(0)));
        due.is("told(3)", x.told(3), 0);
        due.is("tick(1)", x.tick(1), 2);
        due.is("swap in a held run", x.swap(p), 1);
        due.is("told(3)", x.told(3), 0);
    }

    /** Those that stand by ROWs alone. */
    private static void phasesOver() {
        StepRows x = new StepRows();
        Teller t = new Teller(x);
        int wait = t.pause(1);
        int p = t.phase(wait);
        t.run(t.row(p, t.row(t.row(p, t.count(0)), p), t.phase(t.row(p, p))));
        int[] want = {0, 1, 2, 3, 3, 4};
        for (int k = 0; k < want.length; k++) {
            due.is("tick(1)", x.tick(1), k == 5 ? 0 : 1);
            due.is("told(1) behind second " + k, x.told(1), want[k]);
        }
        t.run(t.row(t.bind(0, p), t.call(0), t.when(t.num(1), p, p), t.limit(t.num(1), p, p), t.limit(t.num(0), p, p),
            t.repeat(t.num(2), p), t.side(p, p)));
        due.is("tick(20)", x.tick(20), 0);
        due.is("none of these is one", x.told(1), 0);
        t.run(p);
        x.tick(1);
        due.is("told(1)", x.told(1), 0);
        x.tick(1);
        due.is("a program that is a PHASE", x.told(1), 1);
    }

    private static void atTheEndOfAPhase() {
        StepRows x = new StepRows();
        Teller t = new Teller(x);
        int a = t.make(t.row(t.mark(1), t.phase(t.row(t.pause(3), t.out(1, t.num(6)))), t.mark(2),
            t.phase(t.pause(2)), t.mark(3)));
        int b = t.make(t.row(t.mark(4), t.phase(t.mark(5)), t.mark(6), t.phase(t.row(t.mark(7), t.pause(2))),
            t.mark(8)));
        x.start(a);
        x.tick(1);
        due.is("swap", x.swap(b), 0);
        due.is("told(2)", x.told(2), a);
        x.tick(2);
        due.is("not before the phase is over", x.told(2), a);
        due.is("told(3)", x.told(3), 1);
        x.tick(1);
        due.is("told(2)", x.told(2), b);
        due.is("told(3)", x.told(3), 0);
        due.is("told(1)", x.told(1), 1);
        due.is("in the same second, behind one phase; values stay", x.value(0), 167);
        due.is("outputs stay", x.output(1), 6);
        due.is("a place of the other program", x.step(0), 31);
        due.is("tick(2)", x.tick(2), 0);
        due.is("value(0)", x.value(0), 1678);
        due.is("told(1)", x.told(1), 2);
        due.is("told(0)", x.told(0), 6);
    }

    private static void whateverWaited() {
        StepRows x = new StepRows();
        Teller t = new Teller(x);
        int p = t.phase(t.pause(1));
        int a = t.make(t.row(p, t.let(0, t.num(1))));
        int b = t.make(t.row(p, t.let(0, t.num(2))));
        int c = t.make(t.row(p, t.let(0, t.num(3))));
        x.start(a);
        due.is("swap(b)", x.swap(b), 0);
        due.is("swap(c)", x.swap(c), 0);
        due.is("tick(2)", x.tick(2), 0);
        due.is("value(0)", x.value(0), 3);
        x.start(a);
        due.is("swap(b)", x.swap(b), 0);
        x.start(a);
        due.is("tick(2)", x.tick(2), 0);
        due.is("a start lets it wait no more", x.value(0), 1);
    }

    private static void notSoMany() {
        StepRows x = new StepRows();
        Teller t = new Teller(x);
        int p = t.phase(t.pause(1));
        int three = t.make(t.row(p, p, p, t.count(0)));
        int one = t.make(t.row(p, t.count(1), t.pause(7)));
        int none = t.make(t.row(t.count(2), t.pause(7)));
        x.start(three);
        x.tick(2);
        x.swap(one);
        due.is("it has ended", x.tick(1), 0);
        due.is("told(1)", x.told(1), 2);
        due.is("told(2)", x.told(2), one);
        due.is("told(3)", x.told(3), 0);
        due.is("told(0)", x.told(0), 3);
        due.is("value(1)", x.value(1), 0);
        x.start(three);
        x.swap(none);
        due.is("tick(1)", x.tick(1), 1);
        due.is("it has ended", x.tick(1), 0);
        due.is("value(2)", x.value(2), 0);
        due.is("told(2)", x.told(2), none);
    }

    private static void atTheVeryEnd() {
        StepRows x = new StepRows();
        Teller t = new Teller(x);
        int p = t.phase(t.pause(1));
        int a = t.make(p);
        int b = t.make(t.row(p, t.row(t.count(1), t.pause(1))));
        x.start(a);
        x.swap(b);
        due.is("the last phase of a, and on in b", x.tick(2), 1);
        due.is("value(1)", x.value(1), 1);
        due.is("tick(1)", x.tick(1), 0);
        x.start(b);
        x.swap(a);
        due.is("behind the last phase of a: it has ended", x.tick(2), 0);
        due.is("value(1)", x.value(1), 0);
        due.is("told(2)", x.told(2), a);
    }

    private static void inAllPrograms() {
        StepRows x = new StepRows();
        Teller t = new Teller(x);
        int p = t.phase(t.pause(1));
        int a = t.make(t.row(p, t.mark(1), p, t.mark(2), p, t.mark(3), p, t.mark(4)));
        int b = t.make(t.row(t.row(t.row(p, t.mark(5)), t.row(p, t.mark(6))), t.row(t.row(p, t.mark(7)), p)));
        x.start(a);
        x.swap(b);
        x.tick(2);
        due.is("value(0)", x.value(0), 5);
        x.tick(1);
        due.is("value(0)", x.value(0), 56);
        due.is("told(1)", x.told(1), 2);
        x.swap(a);
        x.tick(1);
        due.is("value(0)", x.value(0), 563);
        due.is("told(1)", x.told(1), 3);
        x.swap(b);
        due.is("tick(1)", x.tick(1), 0);
        due.is("b has four, and nothing behind them", x.value(0), 563);
        due.is("told(1)", x.told(1), 4);
    }

    private static void namesMeanNothing() {
        StepRows x = new StepRows();
        Teller t = new Teller(x);
        int p = t.phase(t.pause(1));
        int bind = t.bind(0, t.count(0));
        int a = t.make(t.row(bind, p, t.call(0)));
        int again = t.make(t.row(bind, p, t.call(0)));
        int b = t.make(t.row(p, bind, t.call(0)));
        due.is("shared", x.shared(a, again), true);
        x.start(a);
        due.is("tick(2)", x.tick(2), 0);
        x.start(a);
        x.swap(again);
        due.is("even in an equal program", x.tick(2), 2);
        due.is("alarm(0, 1)", x.alarm(0, 1), 3);
        due.is("alarm(0, 2)", x.alarm(0, 2), 10);
        due.is("told(2)", x.told(2), a);
        x.start(a);
        x.swap(b);
        due.is("bound anew", x.tick(2), 0);
        due.is("value(0)", x.value(0), 1);
    }

    private static void countedOn() {
        StepRows x = new StepRows();
        Teller t = new Teller(x);
        int a = t.make(t.phase(t.row(t.pause(1), t.repeat(t.num(249), t.count(0)))));
        int b = t.make(t.row(t.phase(t.pause(1)), t.repeat(t.num(249), t.count(0))));
        int c = t.make(t.row(t.phase(t.pause(1)), t.repeat(t.num(250), t.count(0))));
        x.start(a);
        x.swap(b);
        due.is("250 and 250 in one second", x.tick(2), 0);
        x.start(a);
        x.swap(c);
        due.is("250 and 251", x.tick(2), 2);
        due.is("alarm(0, 1)", x.alarm(0, 1), 4);
        due.is("alarm(0, 2)", x.alarm(0, 2), 6);
        due.is("told(2)", x.told(2), c);
    }

    private static void faultsInTheOther() {
        StepRows x = new StepRows();
        Teller t = new Teller(x);
        int a = t.make(t.row(t.phase(t.pause(2)), t.pause(9)));
        int b = t.make(t.row(t.row(t.phase(t.pause(2)), t.pause(1)), t.out(0, t.div(t.num(1), t.num(0)))));
        x.start(a);
        x.swap(b);
        due.is("tick(3)", x.tick(3), 1);
        due.is("step(0)", x.step(0), 5);
        due.is("tick(1)", x.tick(1), 2);
        due.is("alarm(0, 0)", x.alarm(0, 0), 3);
        due.is("alarm(0, 2)", x.alarm(0, 2), 8);
    }

    private static void waitsOn() {
        StepRows x = new StepRows();
        Teller t = new Teller(x);
        int a = t.make(t.row(t.count(0), t.pause(2), t.when(t.num(1), t.phase(t.pause(1)), -1)));
        x.start(a);
        x.swap(a);
        due.is("no phase is over", x.tick(9), 0);
        due.is("it still waits", x.told(3), 1);
        due.is("told(1)", x.told(1), 0);
        due.is("tick(1)", x.tick(1), 0);
    }

    private static void toItself() {
        StepRows x = new StepRows();
        Teller t = new Teller(x);
        int p = t.phase(t.pause(1));
        int a = t.make(t.row(p, t.mark(1), p, t.mark(2), t.phase(t.mark(3)), t.mark(4)));
        x.start(a);
        x.swap(a);
        x.tick(2);
        due.is("value(0)", x.value(0), 1);
        x.swap(a);
        due.is("tick(1)", x.tick(1), 0);
        due.is("value(0)", x.value(0), 1234);
        due.is("a phase that takes no time", x.told(1), 3);
    }
}
