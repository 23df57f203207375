/** Promises 4 and 15: make, shared; and places. */
public final class MakeTest {
    private static final Due due = new Due("MakeTest");

    public static void main(String[] args) {
        refused();
        fiveHundredPlaces();
        doubled();
        longChains();
        places();
        sharing();
        elseOfWhich();
        due.end();
    }

    private static void refused() {
        StepRows x = new StepRows();
        Teller t = new Teller(x);
        int e = t.num(1);
        int s = t.await(e);
        for (int root : new int[] {e, -1, -2, 2, Integer.MAX_VALUE, Integer.MIN_VALUE}) {
            due.is("make(" + root + ")", x.make(root), -1);
        }
        for (int k = 0; k < 20; k++) {
            due.is("make " + k, x.make(s), k);
        }
        due.is("the 21st", x.make(s), -2);
        due.is("refused before it is full", x.make(e), -1);
        due.is("start(19)", x.start(19), 0);
        due.is("start(20)", x.start(20), -1);
        due.is("start(-1)", x.start(-1), -1);
        due.is("told(2)", x.told(2), 0);
    }

    /** OUT 0 1 + 1 + .. : 2 places more for each +. */
    private static int sum(Teller t, int adds) {
        int one = t.num(1);
        int all = one;
        for (int k = 0; k < adds; k++) {
            all = t.add(all, one);
        }
        return t.out(0, all);
    }

    private static void fiveHundredPlaces() {
        StepRows x = new StepRows();
        Teller t = new Teller(x);
        int s500 = sum(t, 249);
        int s501 = t.phase(s500);
        due.is("500 places", x.make(s500), 0);
        due.is("501 places", x.make(s501), -1);
        due.is("start", x.start(0), 0);
        due.is("tick(1)", x.tick(1), 0);
        due.is("output(0)", x.output(0), 250);
    }

    private static void doubled() {
        StepRows x = new StepRows();
        Teller t = new Teller(x);
        int s = t.count(0);
        due.is("make", x.make(s), 0);
        for (int k = 0; k < 200; k++) {
            s = t.row(s, s);
        }
        due.is("2^200 places and more", x.make(s), -1);
        due.is("start", x.start(0), 0);
        due.is("tick(1)", x.tick(1), 0);
        due.is("value(0)", x.value(0), 1);
        StepRows y = new StepRows();
        Teller u = new Teller(y);
        int c = u.count(0);
        for (int k = 0; k < 6; k++) {
            c = u.row(c, c);
        }
        due.is("64 * 4 + 63 places", y.make(c), 0);
        due.is("start", y.start(0), 0);
        due.is("tick(1)", y.tick(1), 0);
        due.is("value(0)", y.value(0), 64);
    }

    /** As deep as 300 nodes go: nothing in the class may go that deep itself. */
    private static void longChains() {
        StepRows x = new StepRows();
        Teller t = new Teller(x);
        int e = t.num(0);
        for (int k = 0; k < 297; k++) {
            e = t.tab(e);
        }
        t.run(t.out(3, e));
        due.is("TABLE of TABLE ..: tick(1)", x.tick(1), 2);
        due.is("its fault", x.alarm(0, 1), 2);
        due.is("0 1 2 3 5 13: at the sixth from within", x.alarm(0, 2), 292);
        StepRows y = new StepRows();
        Teller u = new Teller(y);
        int s = u.pause(2);
        for (int k = 0; k < 298; k++) {
            s = u.phase(s);
        }
        u.run(s);
        due.is("PHASE of PHASE ..: tick(2)", y.tick(2), 1);
        due.is("step(0)", y.step(0), 298);
        due.is("tick(1)", y.tick(1), 0);
        due.is("one of them is a phase of the program", y.told(1), 1);
        StepRows z = new StepRows();
        Teller v = new Teller(z);
        int right = v.num(1);
        int one = right;
        for (int k = 0; k < 249; k++) {
            right = v.sub(one, right);
        }
        v.run(v.out(0, right));
        due.is("1 - (1 - (1 ..: tick(1)", z.tick(1), 0);
        due.is("output(0)", z.output(0), 0);
    }

    private static void places() {
        StepRows x = new StepRows();
        Teller t = new Teller(x);
        int wait = t.pause(9);
        // 0 ROW, 1 OUT 2 + 3 4, 5 ROW, 6 RAMP 7 8, 9 ROW, 10 IF 11, 12 ROW 13 WAIT 14 15 WAIT 16,
        // 17 SIDE 18 WAIT 19, 20 LIMIT 21 22 WAIT 23 24 WAIT 25
        int all = t.row(t.out(7, t.add(t.num(1), t.num(2))), t.ramp(6, t.num(5), t.num(2)),
            t.when(t.num(1), t.row(wait, wait), -1), t.side(wait, t.limit(t.num(1), wait, wait)));
        t.run(all);
        due.is("no branch stands yet", x.step(0), -1);
        due.is("tick(1)", x.tick(1), 1);
        due.is("RAMP", x.step(0), 6);
        due.is("tick(2)", x.tick(2), 1);
        due.is("WAIT in ROW in IF", x.step(0), 13);
        due.is("tick(9)", x.tick(9), 1);
        due.is("the same WAIT, once more", x.step(0), 15);
        due.is("tick(9)", x.tick(9), 1);
        due.is("left", x.step(0), 18);
        due.is("right, in the LIMIT", x.step(1), 22);
        due.is("no third", x.step(2), -1);
        due.is("no branch -1", x.step(-1), -1);
    }

    private static void sharing() {
        StepRows x = new StepRows();
        Teller t = new Teller(x);
        int[] roots = {
            t.out(1, t.num(5)), t.out(1, t.num(5)), t.out(2, t.num(5)), t.out(1, t.num(6)), t.let(1, t.num(5)),
            t.out(1, t.sig(5)), t.out(1, t.val(5)), t.call(1), t.call(2), t.call(2), t.await(t.num(5)),
            t.bind(1, t.call(2)), t.bind(2, t.call(2)), t.row(t.call(2), t.call(2)), t.side(t.call(2), t.call(2)),
            t.out(1, t.add(t.num(1), t.num(2))), t.out(1, t.add(t.num(2), t.num(1))),
        };
        for (int k = 0; k < roots.length; k++) {
            due.is("make", x.make(roots[k]), k);
        }
        for (int a = 0; a < roots.length; a++) {
            for (int b = 0; b < roots.length; b++) {
                boolean same = a == b || (a < 2 && b < 2) || (a / 2 == 4 && b == 17 - a);
                due.is("shared(" + a + ", " + b + ")", x.shared(a, b), same);
            }
        }
        due.is("shared(0, 17)", x.shared(0, 17), false);
        due.is("shared(17, 17)", x.shared(17, 17), false);
        due.is("shared(-1, -1)", x.shared(-1, -1), false);
        due.is("start(9)", x.start(9), 0);
        due.is("told(2): the first with these rows", x.told(2), 8);
    }

    /** The same kinds in the same order, but another IF has the else. */
    private static void elseOfWhich() {
        StepRows x = new StepRows();
        Teller t = new Teller(x);
        int zero = t.num(0);
        int s = t.count(0);
        int inner = t.make(t.when(zero, t.when(zero, s, s), -1));
        int outer = t.make(t.when(zero, t.when(zero, s, -1), s));
        due.is("shared", x.shared(inner, outer), false);
        x.start(inner);
        x.tick(1);
        due.is("the inner one's else", x.value(0), 0);
        x.start(outer);
        x.tick(1);
        due.is("the outer one's else", x.value(0), 1);
    }
}
