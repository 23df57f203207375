/** The document's Terms, how a run goes and what its statements do: a test for each sentence. */
final class RunBounds {
    private static final int NONE = Asked.NONE;
    private static final String TERMS = "Terms";
    private static final long MIN = Long.MIN_VALUE;
    private static final long MAX = Long.MAX_VALUE;
    private static final long WORD = 1L << 32;

    private final Sentences s;

    RunBounds(Sentences s) {
        this.s = s;
    }

    void all() {
        fromSecondZero();
        limitsFirst();
        branchByBranch();
        begunAndDoesB();
        doesC();
        leftFirst();
        doneAtOnce();
        branchOver();
        ended();
        nextSecond();
        waitOver();
        waitBelowOne();
        rampBelowOne();
        rampEachSecond();
        rampTowardsZero();
        rampAtTheEnd();
        limitAsItBegins();
        repeatReckonedOnce();
        repeatNotAboveZero();
        sideOver();
        signalsWhenAsked();
        asARunBegins();
    }

    private void fromSecondZero() {
        Asked q = s.stands(TERMS, "A RUN goes second by second, from second 0.");
        Teller t = q.t;
        int program = t.make(t.repeat(t.num(3), t.row(t.count(0), t.pause(1))));
        q.start(program);
        q.told(0, 0);
        q.value(0, 0);
        for (int second = 0; second < 3; second++) {
            q.tick(1, 1);
            q.told(0, second + 1);
            q.value(0, second + 1);
        }
        q.tick(1, 0);
        q.told(0, 4);
        q.runs(program, 2, 1);
        q.value(0, 2);
        int fault = t.make(t.row(t.await(t.sig(0)), t.call(0)));
        for (int second = 0; second < 3; second++) {
            q.signal(0, second);
            q.runs(fault, 5, 2);
            q.held(second, 3, 3);
        }
    }

    private void limitsFirst() {
        Asked q = s.stands(TERMS, "In each: first the limits,");
        Teller t = q.t;
        int program = t.make(t.row(t.limit(t.sig(0), t.pause(2), t.mark(1)), t.mark(2), t.pause(1)));
        // b would be over in second 2: the limit is 0 in the second before it, in it, and behind it
        long[] due = {12, 12, 2};
        for (int second = 1; second <= 3; second++) {
            q.signal(0, 1);
            q.runs(program, second, 1);
            q.signal(0, 0);
            q.value(0, second == 3 ? 2 : 0);
            q.tick(1, second == 3 ? 0 : 1);
            q.value(0, due[second - 1]);
        }
        // what a branch does in a second is seen by limits in the next one only
        t.run(t.row(t.let(1, t.num(1)), t.side(t.row(t.pause(1), t.let(1, t.num(0)), t.pause(9)),
            t.limit(t.val(1), t.pause(9), t.row(t.mark(3), t.pause(9))))));
        q.tick(2, 1);
        q.values(0, 0);
        q.tick(1, 1);
        q.value(0, 3);
    }

    private void branchByBranch() {
        Asked q = s.stands(TERMS, "branch by branch, those around before those in them:");
        Teller t = q.t;
        int wait = t.pause(9);
        int first = t.div(t.num(1), t.sig(0));
        int second = t.div(t.num(1), t.sig(1));
        // 0 SIDE, 1 LIMIT 2 / 3 4, 5 WAIT 6, 7 WAIT 8, 9 LIMIT 10 /
        int beside = t.make(t.side(t.limit(first, wait, wait), t.limit(second, wait, wait)));
        // 0 LIMIT 1 / 2 3, 4 LIMIT 5 /
        int within = t.make(t.limit(first, t.limit(second, wait, wait), wait));
        // 0 SIDE, 1 LIMIT 2, 3 LIMIT 4 / 5 6, 7 WAIT 8, 9 WAIT 10, 11 WAIT 12, 13 LIMIT 14 /
        int deeper = t.make(t.side(t.limit(t.num(1), t.limit(first, wait, wait), wait),
            t.limit(second, wait, wait)));
        // 0 LIMIT 1, 2 LIMIT 3 /: the inner one is gone before it is looked at
        int gone = t.make(t.row(t.limit(t.sig(0), t.limit(first, wait, wait), t.mark(1)), t.mark(2)));
        int[][] places = {{beside, 2, 10}, {within, 1, 5}, {deeper, 4, 14}};
        for (int[] each : places) {
            for (int zeros = 1; zeros <= 3; zeros++) {
                q.signal(0, 1);
                q.signal(1, 1);
                q.runs(each[0], 1, 1);
                q.signal(0, zeros == 2 ? 1 : 0);
                q.signal(1, zeros == 1 ? 1 : 0);
                q.tick(1, 2);
                q.held(1, 1, zeros == 2 ? each[2] : each[1]);
            }
        }
        q.signal(0, 1);
        q.runs(gone, 1, 1);
        q.signal(0, 0);
        q.tick(1, 0);
        q.value(0, 12);
    }

    private void begunAndDoesB() {
        Asked q = s.stands(TERMS, "of each LIMIT that has begun and does its b, a is looked at:");
        Teller t = q.t;
        // a is 0 / 0, a fault, when it is looked at
        int guard = t.div(t.sig(0), t.sig(1));
        // 0 ROW, 1 WAIT 2, 3 ROW, 4 LIMIT 5 / 6 7, 8 WAIT 9, 10 WAIT 11, 12 WAIT
        int program = t.make(t.row(t.pause(2), t.limit(guard, t.pause(2), t.pause(2)), t.pause(9)));
        int[] places = {1, 1, 8, 8, 12, 12};
        for (int second = 0; second <= 5; second++) {
            q.signal(0, 1);
            q.signal(1, 1);
            q.runs(program, second, 1);
            q.signal(1, 0);
            // begun from second 2 on; in second 4 it is looked at before b is over
            boolean looked = second >= 2 && second <= 4;
            q.tick(1, looked ? 2 : 1);
            q.alarm(0, 2, looked ? 5 : NONE);
            q.step(0, looked ? NONE : places[second]);
        }
        // one that does c is not looked at
        q.signal(0, 0);
        q.signal(1, 1);
        q.runs(program, 3, 1);
        q.steps(10);
        q.signal(1, 0);
        q.tick(1, 1);
        q.steps(10);
        q.tick(1, 1);
        q.steps(12);
    }

    private void doesC() {
        Asked q = s.stands(TERMS, "if it is 0, what it does of b is gone, and it does c.");
        Teller t = q.t;
        int wait = t.pause(2);
        // 0 ROW, 1 LIMIT 2, 3 SIDE, 4 SIDE 5 WAIT 6, 7 WAIT 8, 9 REPEAT 10 11 WAIT 12, 13 ROW, 14 LET (6 places),
        // 20 WAIT 21, 22 LET
        int b = t.side(t.side(wait, wait), t.repeat(t.num(5), wait));
        int program = t.make(t.row(t.limit(t.sig(0), b, t.row(t.mark(1), wait)), t.mark(2)));
        for (long a : new long[] {-1, 0, 1, MIN, WORD}) {
            q.signal(0, 1);
            q.runs(program, 1, 1);
            q.steps(5, 7, 11);
            q.signal(0, a);
            q.tick(1, 1);
            q.value(0, a == 0 ? 1 : 0);
            if (a == 0) {
                q.steps(20);
                q.signal(0, 1);
                q.tick(1, 1);
                q.steps(20);
                q.tick(1, 0);
                q.value(0, 12);
            } else {
                q.steps(5, 7, 11);
            }
        }
    }

    private void leftFirst() {
        Asked q = s.stands(TERMS, "Then branches go on, the left one first, each until it stands:");
        Teller t = q.t;
        int wait = t.pause(1);
        int left = t.row(t.mark(1), t.mark(2), wait, t.mark(5), wait);
        int right = t.row(t.mark(3), t.mark(4), wait, t.mark(6), wait);
        t.run(t.side(left, right));
        q.tick(1, 1);
        q.value(0, 1234);
        q.tick(1, 1);
        q.value(0, 123456);
        q.tick(1, 0);
        // what follows an inner SIDE comes before the outer one's right branch
        q = s.again();
        t = q.t;
        wait = t.pause(1);
        int inner = t.side(t.row(wait, t.mark(1)), t.row(wait, t.mark(2)));
        t.run(t.row(t.side(t.row(inner, t.mark(3), wait), t.row(wait, t.mark(4))), t.mark(5)));
        q.tick(1, 1);
        q.value(0, 0);
        q.tick(1, 1);
        q.value(0, 1234);
        q.tick(1, 0);
        q.value(0, 12345);
    }

    private void doneAtOnce() {
        Asked q = s.stands(TERMS, "a statement that does not take time is done at once, and the next one begins.");
        Teller t = q.t;
        int mark = t.mark(1);
        int one = t.num(1);
        int zero = t.num(0);
        int atOnce = t.row(t.out(0, one), t.let(1, one), t.await(zero), t.ramp(1, one, zero), t.when(zero, mark, NONE),
            t.when(one, mark, mark), t.limit(one, mark, mark), t.limit(zero, mark, mark), t.repeat(zero, mark),
            t.repeat(one, mark), t.side(mark, mark), t.bind(0, mark), t.call(0), t.phase(mark));
        t.run(atOnce);
        q.tick(1, 0);
        q.value(0, 11111111);
        q.outputs(1, 1);
        q.told(0, 1);
        // and one that takes a second more: the next one begins as soon as it is over
        t.run(t.row(atOnce, t.await(one), t.mark(2), t.await(one), t.mark(3)));
        q.tick(1, 1);
        q.value(0, 11111111);
        q.tick(1, 1);
        q.value(0, 111111112);
        q.tick(1, 0);
        q.value(0, 1111111123);
    }

    private void branchOver() {
        Asked q = s.stands(TERMS, "A branch whose statement is over is over;");
        Teller t = q.t;
        // 0 SIDE, 1 WAIT 2, 3 SIDE, 4 WAIT 5, 6 WAIT 7
        t.run(t.side(t.pause(2), t.side(t.pause(1), t.pause(3))));
        q.steps();
        q.tick(1, 1);
        q.steps(1, 4, 6);
        q.tick(1, 1);
        q.steps(1, 6);
        q.tick(1, 1);
        q.steps(6);
        q.tick(1, 0);
        q.steps();
    }

    private void ended() {
        Asked q = s.stands(TERMS, "the run has ENDED when the program is.");
        Teller t = q.t;
        int empty = t.make(t.when(t.num(0), t.count(0), NONE));
        int program = t.make(t.row(t.pause(2), t.count(0)));
        q.start(empty);
        q.tick(0, 1);
        q.tick(1, 0);
        q.told(0, 1);
        q.start(program);
        q.tick(2, 1);
        q.value(0, 0);
        q.tick(1, 0);
        q.value(0, 1);
        q.tick(1, 0);
        q.told(0, 3);
        q.value(0, 1);
        q.swap(program, 1);
        q.alarm(0, 0, NONE);
    }

    private void nextSecond() {
        Asked q = s.stands(TERMS, "Then the next second comes.");
        Teller t = q.t;
        t.run(t.repeat(t.num(MAX), t.row(t.count(0), t.pause(1))));
        q.tick(0, 1);
        q.told(0, 0);
        q.tick(1, 1);
        q.told(0, 1);
        q.tick(9998, 1);
        q.told(0, 9999);
        q.tick(1, 1);
        q.told(0, 10000);
        q.value(0, 10000);
        q.tick(10000, 1);
        q.told(0, 20000);
        q.value(0, 20000);
        for (int k = 3; k <= 40; k++) {
            q.tick(10000, 1);
            q.told(0, 10000 * k);
        }
        q.value(0, 400000);
    }

    private void waitOver() {
        Asked q = s.stands(TERMS, "WAIT of n: it is over when n seconds have gone by;");
        Teller t = q.t;
        // 0 ROW, 1 WAIT 2, 3 ROW, 4 WAIT
        int program = t.make(t.row(t.pause(3), t.await(t.sig(0)), t.count(0)));
        for (int n : new int[] {1, 2, 3, 50, 9997}) {
            q.signal(0, n);
            q.runs(program, 3 + n, 1);
            q.steps(4);
            q.value(0, 0);
            q.tick(1, 0);
            q.value(0, 1);
            q.told(0, 3 + n + 1);
        }
        for (long n : new long[] {10005, WORD, MAX - 1, MAX}) {
            q.signal(0, n);
            q.runs(program, 10000, 1);
            q.steps(4);
            q.tick(8, 1);
            q.tick(1, n == 10005 ? 0 : 1);
            q.value(0, n == 10005 ? 1 : 0);
        }
        // n is what it was as it began
        for (int later : new int[] {0, 1, 3, 50}) {
            q.signal(0, 2);
            q.runs(program, 4, 1);
            q.signal(0, later);
            q.tick(1, 1);
            q.steps(4);
            q.tick(1, 0);
        }
    }

    private void waitBelowOne() {
        Asked q = s.stands(TERMS, "at once when n is below 1.");
        Teller t = q.t;
        int program = t.make(t.row(t.await(t.sig(0)), t.count(0)));
        for (long n : new long[] {MIN, MIN + 1, -WORD, -WORD + 1, -2, -1, 0, 1, 2}) {
            q.signal(0, n);
            q.runs(program, 1, n < 1 ? 0 : 1);
            q.value(0, n < 1 ? 1 : 0);
            q.step(0, n < 1 ? NONE : 1);
            q.tick(1, n == 2 ? 1 : 0);
            q.told(0, n < 1 ? 1 : 2);
        }
    }

    private void rampBelowOne() {
        Asked q = s.stands(TERMS, "RAMP to v in n seconds: at once to v when n is below 1;");
        Teller t = q.t;
        int program = t.make(t.row(t.out(0, t.num(4)), t.ramp(0, t.num(10), t.sig(0)), t.count(0)));
        for (long n : new long[] {MIN, -WORD + 1, -2, -1, 0, 1, 2}) {
            q.signal(0, n);
            q.runs(program, 1, n < 1 ? 0 : 1);
            q.output(0, n < 1 ? 10 : 4);
            q.value(0, n < 1 ? 1 : 0);
            q.step(0, n < 1 ? NONE : 4);
            q.tick(1, n == 2 ? 1 : 0);
            q.output(0, n == 2 ? 7 : 10);
            q.told(0, n < 1 ? 1 : 2);
        }
    }

    private void rampEachSecond() {
        Asked q = s.stands(TERMS, "otherwise in each second from its own on, in which k have gone by, its output becomes"
            + " w + (v - w) * k / n");
        Teller t = q.t;
        int program = t.make(t.row(t.pause(2), t.out(1, t.num(100)), t.ramp(1, t.num(200), t.num(4)), t.count(0),
            t.pause(1)));
        q.runs(program, 2, 1);
        long[] due = {100, 125, 150, 175, 200};
        for (int k = 0; k <= 4; k++) {
            q.tick(1, 1);
            q.output(1, due[k]);
            q.value(0, k == 4 ? 1 : 0);
        }
        // another branch sets the output in each second, behind the RAMP and then before it
        t.run(t.side(t.ramp(1, t.num(-200), t.num(4)), t.repeat(t.num(9), t.row(t.out(1, t.num(7)), t.pause(1)))));
        for (int k = 0; k <= 4; k++) {
            q.tick(1, 1);
            q.output(1, 7);
        }
        t.run(t.side(t.repeat(t.num(9), t.row(t.out(1, t.num(7)), t.pause(1))), t.ramp(1, t.num(207), t.num(4))));
        long[] after = {7, 57, 107, 157, 207, 7};
        for (int k = 0; k <= 5; k++) {
            q.tick(1, 1);
            q.output(1, after[k]);
        }
        // 50 of them at once
        int ramp = t.ramp(1, t.num(200), t.num(4));
        t.run(t.row(t.out(1, t.num(100)), t.sides(49, ramp, ramp)));
        for (int k = 0; k <= 4; k++) {
            q.tick(1, k == 4 ? 0 : 1);
            q.output(1, due[k]);
        }
        // (v - w) and * k wrap
        long quarter = 1L << 62;
        t.run(t.ramp(0, t.num(quarter), t.num(4)));
        long[] wrapped = {0, quarter / 4, MIN / 4, (quarter * 3) / 4, quarter};
        for (int k = 0; k <= 4; k++) {
            q.tick(1, k == 4 ? 0 : 1);
            q.output(0, wrapped[k]);
        }
        t.run(t.row(t.out(0, t.num(MIN)), t.ramp(0, t.num(MAX), t.num(1 + WORD))));
        q.tick(3, 1);
        q.output(0, MIN);
        t.run(t.ramp(0, t.num(MAX), t.num(MAX)));
        q.tick(2, 1);
        q.output(0, 1);
        q.tick(1, 1);
        q.output(0, 0);
    }

    private void rampTowardsZero() {
        Asked q = s.stands(TERMS, "(towards 0; w is what it was at its beginning)");
        Teller t = q.t;
        int program = t.make(t.row(t.out(3, t.sig(0)), t.ramp(3, t.sig(1), t.sig(2))));
        long[][] rows = {
            {0, 1, 0, 0}, {0, -1, 0, 0}, {0, 2, 0, 1}, {0, -2, 0, -1}, {0, 10, 3, 6}, {0, -10, -3, -6},
            {10, 0, 7, 4}, {-10, 0, -7, -4}, {10, 9, 10, 10}, {-5, 6, -2, 2}, {5, 5, 5, 5},
        };
        for (long[] row : rows) {
            q.signal(0, row[0]);
            q.signal(1, row[1]);
            q.signal(2, 3);
            q.runs(program, 1, 1);
            q.signal(0, 55);
            q.signal(1, 66);
            q.signal(2, 77);
            q.output(3, row[0]);
            q.tick(1, 1);
            q.output(3, row[2]);
            q.tick(1, 1);
            q.output(3, row[3]);
            q.tick(1, 0);
            q.output(3, row[1]);
        }
        // another branch sets the output in second 1: w stays what it was
        t.run(t.side(t.ramp(1, t.num(10), t.num(5)), t.row(t.pause(1), t.out(1, t.num(77)), t.pause(9))));
        q.tick(2, 1);
        q.output(1, 77);
        q.tick(1, 1);
        q.output(1, 4);
    }

    private void rampAtTheEnd() {
        Asked q = s.stands(TERMS, "but with k = n it becomes v, and the RAMP is over.");
        Teller t = q.t;
        int program = t.make(t.row(t.ramp(0, t.sig(0), t.sig(1)), t.count(0), t.pause(1)));
        // (v - w) * n wraps in most of these, so that the formula would not come to v
        long[][] rows = {{10, 1}, {10, 2}, {-10, 3}, {MAX, 2}, {MIN, 3}, {MAX, 100}, {1L << 62, 7}};
        for (long[] row : rows) {
            q.signal(0, row[0]);
            q.signal(1, row[1]);
            q.runs(program, (int) row[1], 1);
            q.steps(1);
            q.value(0, 0);
            q.tick(1, 1);
            q.output(0, row[0]);
            q.value(0, 1);
            q.tick(1, 0);
            q.output(0, row[0]);
        }
    }

    private void limitAsItBegins() {
        Asked q = s.stands(TERMS, "LIMIT: a is looked at as it begins, too.");
        Teller t = q.t;
        // 0 ROW, 1 WAIT 2, 3 LIMIT 4, 5 WAIT 6, 7 WAIT
        int program = t.make(t.row(t.pause(1), t.limit(t.sig(0), t.pause(1), t.pause(1))));
        for (long a : new long[] {-1, 0, 1, MIN, WORD, MAX}) {
            q.signal(0, 0);
            q.runs(program, 1, 1);
            q.steps(1);
            q.signal(0, a);
            q.tick(1, 1);
            q.steps(a == 0 ? 7 : 5);
            q.tick(1, 0);
        }
        // it begins and is over within a second: only then it is looked at
        t.run(t.row(t.limit(t.sig(0), t.mark(1), t.mark(2)), t.limit(t.sig(1), t.mark(3), t.mark(4))));
        q.signal(0, 0);
        q.signal(1, -1);
        q.tick(1, 0);
        q.value(0, 23);
        t.run(t.limit(t.div(t.num(1), t.num(0)), t.mark(1), t.mark(2)));
        q.tick(1, 2);
        q.held(0, 1, 1);
        q.value(0, 0);
    }

    private void repeatReckonedOnce() {
        Asked q = s.stands(TERMS, "REPEAT: a is reckoned once;");
        Teller t = q.t;
        int program = t.make(t.row(t.repeat(t.sig(0), t.row(t.count(0), t.pause(1))), t.count(1)));
        for (int later : new int[] {0, 1, 3, 50}) {
            q.signal(0, 2);
            q.runs(program, 1, 1);
            q.signal(0, later);
            q.tick(1, 1);
            q.values(2, 0);
            q.tick(1, 0);
            q.values(2, 1);
        }
        t.run(t.row(t.let(0, t.num(3)), t.repeat(t.val(0), t.count(0))));
        q.tick(1, 0);
        q.value(0, 6);
        q.signal(0, 1);
        t.run(t.repeat(t.div(t.num(2), t.sig(0)), t.row(t.count(0), t.pause(1))));
        q.tick(1, 1);
        q.signal(0, 0);
        q.tick(2, 0);
        q.value(0, 2);
    }

    private void repeatNotAboveZero() {
        Asked q = s.stands(TERMS, "not above 0: nothing.");
        Teller t = q.t;
        int program = t.make(t.row(t.repeat(t.sig(0), t.row(t.count(0), t.pause(1))), t.count(1)));
        for (long a : new long[] {MIN, MIN + 1, -WORD, -WORD + 1, -2, -1, 0}) {
            q.signal(0, a);
            q.runs(program, 1, 0);
            q.values(0, 1);
        }
        for (long a : new long[] {1, 2, WORD, MAX}) {
            q.signal(0, a);
            q.runs(program, 1, 1);
            q.values(1, 0);
            q.tick(1, a == 1 ? 0 : 1);
            q.values(a == 1 ? 1 : 2, a == 1 ? 1 : 0);
            q.tick(1000, a <= 2 ? 0 : 1);
            q.value(0, a <= 2 ? a : 1002);
        }
    }

    private void sideOver() {
        Asked q = s.stands(TERMS, "SIDE is over when both are.");
        Teller t = q.t;
        int program = t.make(t.row(t.side(t.row(t.await(t.sig(0)), t.mark(1)), t.row(t.await(t.sig(1)), t.mark(2))),
            t.mark(3)));
        int[][] rows = {{0, 0, 123}, {1, 0, 213}, {0, 1, 123}, {1, 1, 123}, {2, 1, 213}, {1, 2, 123}, {2, 2, 123}};
        for (int[] row : rows) {
            q.signal(0, row[0]);
            q.signal(1, row[1]);
            int last = Math.max(row[0], row[1]);
            q.runs(program, last, 1);
            q.tick(1, 0);
            q.value(0, row[2]);
            q.told(0, last + 1);
        }
        // 0 ROW, 1 SIDE, 2 ROW 3 WAIT: the one that is over stands no more, the other one does
        q.signal(0, 2);
        q.signal(1, 1);
        q.runs(program, 2, 1);
        q.steps(3);
        q.value(0, 2);
    }

    private void signalsWhenAsked() {
        Asked q = s.stands(TERMS, "Signals are as told when they are asked.");
        Teller t = q.t;
        int program = t.make(t.repeat(t.num(5), t.row(t.out(0, t.sig(0)), t.out(1, t.sig(15)), t.pause(1))));
        q.runs(program, 1, 1);
        q.outputs(0, 0);
        q.signal(0, 4);
        q.signal(15, MIN);
        q.outputs(0, 0);
        q.tick(1, 1);
        q.outputs(4, MIN);
        q.signal(0, 5);
        q.signal(0, 6);
        q.signal(16, 7, false);
        q.tick(1, 1);
        q.outputs(6, MIN);
        q.start(program);
        q.outputs();
        q.tick(1, 1);
        q.outputs(6, MIN);
    }

    private void asARunBegins() {
        Asked q = s.stands(TERMS, "Values and names' meanings, outputs: 0 and nothing as a run begins.");
        Teller t = q.t;
        int all = t.count(0);
        for (int k = 0; k < 8; k++) {
            all = t.row(t.out(k, t.num(200 + k)), t.let(k, t.num(100 + k)), t.let(k + 8, t.num(108 + k)),
                t.bind(k, t.count(0)), all);
        }
        int program = t.make(all);
        q.runs(program, 1, 0);
        q.outputs(200, 201, 202, 203, 204, 205, 206, 207);
        for (int k = 1; k < 16; k++) {
            q.value(k, 100 + k);
        }
        q.start(program);
        q.outputs();
        for (int k = 0; k < 16; k++) {
            q.value(k, 0);
        }
        for (int name = 0; name < 8; name++) {
            q.runs(program, 1, 0);
            q.value(1, 101);
            t.run(t.call(name));
            q.tick(1, 2);
            q.held(0, 3, 0);
            q.value(1, 0);
            q.output(1, 0);
        }
    }
}
