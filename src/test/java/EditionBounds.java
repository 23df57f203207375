/** The document's Terms, EDITIONS: a test for each sentence. */
final class EditionBounds {
    private static final int NONE = Asked.NONE;
    private static final String TERMS = "Terms";

    private final Sentences s;

    EditionBounds(Sentences s) {
        this.s = s;
    }

    void all() {
        s.leads(TERMS, "EDITIONS.");
        waitsAndOver();
        sameSecond();
        countedOn();
        behindAsMany();
        notSoMany();
        valuesStay();
        namesMeanNothing();
        waitsNoMore();
    }

    private void waitsAndOver() {
        Asked q = s.stands(TERMS,
            "When a swap waits and a phase of the running program is over, the run goes on in the other program,");
        Teller t = q.t;
        int p = t.phase(t.pause(2));
        int a = t.make(t.row(p, t.mark(1), t.pause(9)));
        int b = t.make(t.row(p, t.mark(2), t.pause(9)));
        // the phase is over in second 2: the swap comes before seconds 0, 1, 2 and 3
        for (int second = 0; second <= 3; second++) {
            q.runs(a, second, 1);
            q.swap(b, 0);
            q.told(2, a);
            q.tick(2 - Math.min(second, 2), 1);
            q.told(2, a);
            q.told(3, 1);
            q.tick(1, 1);
            q.told(2, second <= 2 ? b : a);
            q.told(3, second <= 2 ? 0 : 1);
            q.value(0, second <= 2 ? 2 : 1);
        }
        // no swap waits
        q.runs(a, 3, 1);
        q.told(1, 1);
        q.told(2, a);
        // PHASEs that are no phases of the program are no end of one
        q = s.again();
        t = q.t;
        int in = t.phase(t.pause(1));
        b = t.make(t.row(in, t.mark(2), t.pause(9)));
        int[] roots = {t.repeat(t.num(1), in), t.when(t.num(1), in, NONE), t.limit(t.num(1), in, in), t.side(in, in),
            t.row(t.bind(0, in), t.call(0)), t.pause(1)};
        for (int root : roots) {
            a = t.make(t.row(root, t.mark(1), t.phase(t.pause(1)), t.mark(3)));
            q.start(a);
            q.swap(b, 0);
            q.tick(2, 1);
            q.told(1, 0);
            q.told(2, a);
            q.told(3, 1);
            q.value(0, 1);
            q.tick(1, 1);
            q.told(1, 1);
            q.told(2, b);
            q.value(0, 12);
        }
    }

    private void sameSecond() {
        Asked q = s.stands(TERMS, "in the same second");
        Teller t = q.t;
        int p = t.phase(t.pause(1));
        int a = t.make(t.row(p, t.mark(1), t.pause(9)));
        // 0 ROW, 1 LET (6 places), 7 ROW, 8 PHASE 9 WAIT 10, 11 ROW, 12 LET (6 places), 18 WAIT
        int b = t.make(t.row(t.mark(2), p, t.mark(3), t.pause(2)));
        q.start(a);
        q.swap(b, 0);
        q.tick(1, 1);
        q.value(0, 0);
        q.tick(1, 1);
        q.told(0, 2);
        q.value(0, 3);
        q.steps(18);
        q.tick(1, 1);
        q.tick(1, 0);
        q.told(0, 4);
        // several phases in one second, with a swap that waits for the first of them
        int c = t.make(t.row(t.phase(t.mark(1)), t.phase(t.mark(2)), t.mark(3)));
        int d = t.make(t.row(t.phase(t.mark(4)), t.phase(t.mark(5)), t.mark(6)));
        q.start(c);
        q.swap(d, 0);
        q.tick(1, 0);
        q.value(0, 156);
        q.told(0, 1);
        q.told(1, 2);
    }

    private void countedOn() {
        Asked q = s.stands(TERMS, "(statements that begin are counted on),");
        Teller t = q.t;
        int a = t.make(t.phase(t.row(t.pause(1), t.repeat(t.sig(0), t.count(0)))));
        // 0 ROW, 1 PHASE 2 WAIT 3, 4 REPEAT 5, 6 LET
        int b = t.make(t.row(t.phase(t.pause(1)), t.repeat(t.sig(1), t.count(1))));
        // in second 1: REPEAT and signal 0, REPEAT and signal 1
        int[][] rows = {{249, 248}, {249, 249}, {249, 250}, {0, 498}, {0, 499}, {498, 0}, {498, 1}, {499, 0}};
        for (int[] row : rows) {
            q.signal(0, row[0]);
            q.signal(1, row[1]);
            q.start(a);
            q.swap(b, 0);
            int sum = row[0] + row[1] + 2;
            q.tick(2, sum <= 500 ? 0 : 2);
            q.values(row[0], sum <= 500 ? row[1] : row[1] == 0 ? 0 : row[1] - 1);
            q.alarm(0, 1, sum <= 500 ? NONE : 4);
            q.alarm(0, 2, sum <= 500 ? NONE : row[1] == 0 ? 4 : 6);
            q.told(2, b);
        }
    }

    private void behindAsMany() {
        Asked q = s.stands(TERMS, "behind as many of its phases as were over in this run, in all programs so far;");
        Teller t = q.t;
        int p = t.phase(t.pause(1));
        int a = t.make(t.row(p, t.mark(1), p, t.mark(2), p, t.mark(3), p, t.mark(4)));
        int b = t.make(t.row(t.row(t.row(p, t.mark(5)), t.row(p, t.mark(6))), t.row(t.row(p, t.mark(7)), p)));
        q.start(a);
        q.swap(b, 0);
        q.tick(2, 1);
        q.value(0, 5);
        q.told(1, 1);
        q.tick(1, 1);
        q.value(0, 56);
        q.told(1, 2);
        q.swap(a, 0);
        q.tick(1, 1);
        q.value(0, 563);
        q.told(1, 3);
        q.swap(b, 0);
        q.tick(1, 0);
        q.value(0, 563);
        q.told(1, 4);
        // in this run: a start counts anew
        q.start(a);
        q.swap(b, 0);
        q.tick(2, 1);
        q.value(0, 5);
        q.told(1, 1);
        // to a program with the same rows: behind the same phase
        q.start(a);
        q.tick(2, 1);
        q.swap(a, 0);
        q.tick(1, 1);
        q.value(0, 12);
        q.tick(1, 1);
        q.value(0, 123);
    }

    private void notSoMany() {
        Asked q = s.stands(TERMS, "it has ENDED when that has not so many.");
        Teller t = q.t;
        int p = t.phase(t.pause(1));
        int behind = t.row(t.mark(9), t.pause(9));
        int a = t.make(t.row(p, p, p, behind));
        int[] others = {t.make(behind), t.make(t.row(p, behind)), t.make(t.row(p, p, behind)),
            t.make(t.row(p, p, p, t.mark(8), behind))};
        for (int over = 1; over <= 3; over++) {
            for (int has = 0; has <= 3; has++) {
                q.runs(a, over, 1);
                q.swap(others[has], 0);
                q.tick(1, has < over ? 0 : 1);
                q.told(1, over);
                q.told(2, others[has]);
                q.told(3, 0);
                q.value(0, has != over ? 0 : has == 3 ? 89 : 9);
                q.told(0, over + 1);
                q.step(1, NONE);
                q.swap(a, has < over ? 1 : 0);
            }
        }
        // so many, but nothing behind them
        int bare = t.make(t.row(p, p));
        q.runs(a, 2, 1);
        q.swap(bare, 0);
        q.tick(1, 0);
        q.value(0, 0);
        q.runs(a, 1, 1);
        q.swap(bare, 0);
        q.tick(1, 1);
        q.tick(1, 0);
        q.told(1, 2);
        // a program that is one PHASE
        int only = t.make(p);
        for (int over = 1; over <= 2; over++) {
            q.runs(a, over, 1);
            q.swap(only, 0);
            q.tick(1, 0);
            q.told(1, over);
            q.told(2, only);
        }
    }

    private void valuesStay() {
        Asked q = s.stands(TERMS, "Values and outputs stay;");
        Teller t = q.t;
        int set = t.row(t.let(0, t.num(100)), t.let(15, t.num(115)), t.out(0, t.num(200)), t.out(7, t.num(207)));
        int a = t.make(t.phase(t.row(set, t.ramp(1, t.num(5), t.num(1)))));
        int b = t.make(t.row(t.phase(t.pause(1)), t.let(1, t.add(t.val(0), t.val(15))), t.pause(1),
            t.ramp(7, t.num(201), t.num(2))));
        q.start(a);
        q.swap(b, 0);
        q.tick(2, 1);
        q.told(2, b);
        q.outputs(200, 5, 0, 0, 0, 0, 0, 207);
        q.values(100, 215);
        q.value(15, 115);
        q.tick(2, 1);
        q.output(7, 204);
    }

    private void namesMeanNothing() {
        Asked q = s.stands(TERMS, "names mean nothing any more.");
        Teller t = q.t;
        int p = t.phase(t.pause(1));
        for (int name : new int[] {0, 7}) {
            int bind = t.bind(name, t.count(0));
            // 0 ROW, 1 BIND (5 places), 6 ROW, 7 PHASE 8 WAIT 9, 10 CALL
            int a = t.make(t.row(bind, p, t.call(name)));
            int again = t.make(t.row(bind, p, t.call(name)));
            int b = t.make(t.row(p, bind, t.call(name)));
            q.runs(a, 2, 0);
            q.value(0, 1);
            q.start(a);
            q.swap(again, 0);
            q.tick(2, 2);
            q.held(1, 3, 10);
            q.start(a);
            q.swap(b, 0);
            q.tick(2, 0);
            q.value(0, 1);
        }
    }

    private void waitsNoMore() {
        Asked q = s.stands(TERMS, "The swap waits no more.");
        Teller t = q.t;
        int p = t.phase(t.pause(1));
        int a = t.make(t.row(p, t.mark(1), p, t.mark(2), p, t.mark(3)));
        int b = t.make(t.row(p, t.mark(4), p, t.mark(5), p, t.mark(6)));
        q.start(a);
        q.swap(b, 0);
        q.told(3, 1);
        q.tick(1, 1);
        q.told(3, 1);
        q.tick(1, 1);
        q.told(3, 0);
        q.value(0, 4);
        q.tick(2, 0);
        q.value(0, 456);
        q.told(2, b);
        q.start(b);
        q.swap(a, 0);
        q.tick(2, 1);
        q.told(3, 0);
        q.swap(b, 0);
        q.told(3, 1);
        q.tick(2, 0);
        q.value(0, 156);
        q.told(3, 0);
    }
}
