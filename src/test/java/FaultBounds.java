/** The document's Terms, faults: a test for each sentence, and for each kind of limit on either side of it. */
final class FaultBounds {
    private static final int NONE = Asked.NONE;
    private static final String TERMS = "Terms";
    private static final long MIN = Long.MIN_VALUE;
    private static final long MAX = Long.MAX_VALUE;

    private final Sentences s;

    FaultBounds(Sentences s) {
        this.s = s;
    }

    void all() {
        s.leads(TERMS, "FAULTS:");
        division();
        table();
        calls();
        begun();
        begunByKind();
        begunInEachSecond();
        aroundByRepeats();
        aroundByLimits();
        aroundByCalls();
        aroundBySides();
        aroundByAll();
        branches();
        branchesNotOver();
        countsFirst();
        thenReckons();
        thenComesAround();
        anAlarm();
        placeInTheProgram();
        forGood();
        whatWasDone();
    }

    private void division() {
        Asked q = s.stands(TERMS, "1 division by 0,");
        Teller t = q.t;
        int program = t.make(t.row(t.out(0, t.num(5)), t.out(0, t.div(t.sig(0), t.sig(1)))));
        for (long a : new long[] {0, 7, MIN}) {
            for (long b = -1; b <= 1; b++) {
                q.signal(0, a);
                q.signal(1, b);
                q.runs(program, 1, b == 0 ? 2 : 0);
                q.output(0, b == 0 ? 5 : a * b);
                q.alarm(0, 0, b == 0 ? 0 : NONE);
                q.alarm(0, 1, b == 0 ? 1 : NONE);
                q.alarm(0, 2, b == 0 ? 4 : NONE);
            }
        }
    }

    private void table() {
        Asked q = s.stands(TERMS, "2 a number that is not in the TABLE,");
        Teller t = q.t;
        int program = t.make(t.row(t.let(0, t.num(5)), t.let(0, t.tab(t.sig(0)))));
        for (long i : new long[] {MIN, -2, -1, 0, 1, 8, 9, 10, 11, 1L << 32, MAX}) {
            boolean in = i >= 0 && i <= 9;
            q.signal(0, i);
            q.runs(program, 1, in ? 0 : 2);
            q.alarm(0, 0, in ? NONE : 0);
            q.alarm(0, 1, in ? NONE : 2);
            q.alarm(0, 2, in ? NONE : 4);
            if (!in) {
                q.value(0, 5);
            }
        }
        q.signal(0, 9);
        q.runs(program, 1, 0);
        q.value(0, 89);
    }

    private void calls() {
        Asked q = s.stands(TERMS, "3 CALL of a name that means nothing,");
        Teller t = q.t;
        for (int name : new int[] {0, 3, 7}) {
            // 0 ROW, 1 CALL, 2 BIND 3 LET: called before it is bound
            t.run(t.row(t.call(name), t.bind(name, t.count(0))));
            q.tick(1, 2);
            q.held(0, 3, 1);
            t.run(t.row(t.bind(name, t.count(0)), t.call(name)));
            q.tick(1, 0);
            q.value(0, 1);
            // 0 ROW, 1 IF 2, 3 BIND 4 LET (4 places), 8 CALL: a BIND that is not begun does not bind
            t.run(t.row(t.when(t.num(0), t.bind(name, t.count(0)), NONE), t.call(name)));
            q.tick(1, 2);
            q.held(0, 3, 8);
        }
    }

    /** 0 ROW, 1 REPEAT 2, 3 LET (4 places), 7 the kind: signal 0 and one begin before it. */
    private int behindMany(Teller t, int kind) {
        return t.row(t.repeat(t.sig(0), t.count(0)), kind);
    }

    private void begun() {
        Asked q = s.stands(TERMS, "4 the 501st statement that begins in one second");
        Teller t = q.t;
        int program = t.make(t.repeat(t.sig(0), t.count(0)));
        for (int times = 498; times <= 502; times++) {
            q.signal(0, times);
            q.runs(program, 1, times <= 499 ? 0 : 2);
            q.value(0, Math.min(times, 499));
            q.alarm(0, 0, times <= 499 ? NONE : 0);
            q.alarm(0, 1, times <= 499 ? NONE : 4);
            q.alarm(0, 2, times <= 499 ? NONE : 2);
        }
        // both branches' are counted together: SIDE, 2 REPEATs and 248 and 249 LETs
        t.run(t.side(t.repeat(t.num(248), t.count(0)), t.repeat(t.num(249), t.count(1))));
        q.tick(1, 0);
        q.values(248, 249);
        // 0 SIDE, 1 REPEAT 2 3 LET (4 places), 7 REPEAT 8 9 LET
        t.run(t.side(t.repeat(t.num(248), t.count(0)), t.repeat(t.num(250), t.count(1))));
        q.tick(1, 2);
        q.held(0, 4, 9);
        q.values(248, 249);
    }

    /** Each kind of statement: how many begin with it, where the first and the last one stand. */
    private void begunByKind() {
        Asked q = s.stands(TERMS, "(ROWs do not count),");
        Teller t = q.t;
        int let = t.let(1, t.num(1));
        int one = t.num(1);
        int zero = t.num(0);
        int[][] kinds = {
            {t.row(let, let), 2, 8, 10}, {t.row(t.row(let, let), t.row(let, let)), 4, 9, 16},
            {t.out(0, one), 1, 7, 7}, {let, 1, 7, 7}, {t.await(zero), 1, 7, 7}, {t.ramp(0, one, zero), 1, 7, 7},
            {t.when(zero, let, NONE), 1, 7, 7}, {t.when(one, let, NONE), 2, 7, 9}, {t.when(zero, let, let), 2, 7, 11},
            {t.limit(one, let, let), 2, 7, 9}, {t.limit(zero, let, let), 2, 7, 11}, {t.repeat(zero, let), 1, 7, 7},
            {t.repeat(one, let), 2, 7, 9}, {t.side(let, let), 3, 7, 10}, {t.bind(0, let), 1, 7, 7},
            {t.row(t.bind(0, let), t.call(0)), 3, 8, 9}, {t.phase(let), 2, 7, 8},
        };
        for (int k = 0; k < kinds.length; k++) {
            int[] kind = kinds[k];
            int program = t.make(behindMany(t, kind[0]));
            q.signal(0, 499 - kind[1]);
            q.runs(program, 1, 0);
            q.signal(0, 500 - kind[1]);
            q.runs(program, 1, 2);
            q.alarm(0, 1, 4);
            q.alarm(0, 2, kind[3]);
            q.signal(0, 499);
            q.runs(program, 1, 2);
            q.alarm(0, 1, 4);
            q.alarm(0, 2, kind[2]);
        }
    }

    private void begunInEachSecond() {
        Asked q = s.stands(TERMS, "4 the 501st statement that begins in one second");
        Teller t = q.t;
        // second 0: REPEAT, REPEAT, signal 0, WAIT; in each second that follows one less
        int program = t.make(t.repeat(t.num(5), t.row(t.repeat(t.sig(0), t.count(0)), t.pause(1))));
        q.signal(0, 497);
        q.runs(program, 1, 1);
        q.signal(0, 498);
        q.tick(4, 1);
        q.tick(1, 0);
        q.value(0, 497 + 4 * 498);
        q.signal(0, 497);
        q.runs(program, 2, 1);
        q.signal(0, 499);
        q.tick(1, 2);
        q.held(2, 4, 9);
        q.value(0, 497 + 497 + 499);
        // a LIMIT that does c does not begin anew, its c does: REPEAT and 499
        program = t.make(t.limit(t.sig(1), t.pause(9), t.repeat(t.sig(0), t.count(0))));
        for (int times = 499; times <= 500; times++) {
            q.signal(0, times);
            q.signal(1, 1);
            q.runs(program, 1, 1);
            q.signal(1, 0);
            q.tick(1, times == 499 ? 0 : 2);
            q.value(0, 499);
        }
        q.held(1, 4, 6);
    }

    /** The one with 61 is held in its second at the place. */
    private void sixty(Asked q, int root59, int root60, int root61, int place) {
        q.t.run(root59);
        q.tick(1, 1);
        q.t.run(root61);
        q.tick(1, 2);
        q.held(0, 4, place);
        q.steps();
        q.t.run(root60);
        q.tick(1, 1);
        q.tick(1, 0);
        q.alarm(0, 0, NONE);
    }

    private void aroundByRepeats() {
        Asked q = s.stands(TERMS, "REPEATs, CALLs and SIDEs around one another,");
        Teller t = q.t;
        int wait = t.pause(1);
        int fifty9 = t.repeats(59, wait);
        int sixty = t.repeats(1, fifty9);
        sixty(q, fifty9, sixty, t.repeats(1, sixty), 120);
        // those that are over are not around, nor are ROW, IF, BIND and PHASE
        t.run(t.row(sixty, sixty));
        q.tick(2, 1);
        q.tick(1, 0);
        int other = t.phase(t.row(t.when(t.num(1), t.repeats(30, wait), NONE), t.bind(0, wait)));
        t.run(t.repeats(30, t.row(t.phase(other), t.phase(other))));
        q.tick(2, 1);
        q.tick(1, 0);
        // 60 places, 60 ROW, 61 REPEAT .. (62 places), 123 REPEAT ..: the last one of these is the 61st
        t.run(t.repeats(30, t.row(t.repeats(30, wait), t.repeats(31, wait))));
        q.tick(1, 1);
        q.tick(1, 2);
        q.held(1, 4, 123 + 60);
    }

    private void aroundByLimits() {
        Asked q = s.stands(TERMS, "more than 60 LIMITs (each as long as it does its b),");
        Teller t = q.t;
        int wait = t.pause(1);
        int one = t.num(1);
        int[] roots = new int[62];
        roots[0] = wait;
        for (int k = 1; k <= 61; k++) {
            roots[k] = t.limit(one, roots[k - 1], wait);
        }
        sixty(q, roots[59], roots[60], roots[61], 120);
        // those that do c from the beginning are not around
        int zero = t.num(0);
        int doC = t.repeats(60, wait);
        for (int k = 0; k < 61; k++) {
            doC = t.limit(zero, wait, doC);
        }
        t.run(doC);
        q.tick(1, 1);
        q.tick(1, 0);
        // nor are they when they come to c later: 60 with it, then 60 without it
        q = s.again();
        t = q.t;
        wait = t.pause(1);
        int sixty = t.repeats(60, wait);
        int fifty9 = t.repeats(59, wait);
        int program = t.make(t.row(t.limit(t.sig(0), t.row(fifty9, fifty9), sixty), t.count(0)));
        q.signal(0, 1);
        q.runs(program, 1, 1);
        q.signal(0, 0);
        q.tick(1, 1);
        q.tick(1, 0);
        q.value(0, 1);
        q.signal(0, 1);
        // 0 LIMIT 1, 2 REPEAT ..: the 61st of them is the 60th REPEAT
        t.run(t.limit(t.sig(0), sixty, wait));
        q.tick(1, 2);
        q.held(0, 4, 2 + 2 * 59);
        q.signal(0, 0);
        t.run(t.limit(t.sig(0), sixty, wait));
        q.tick(1, 1);
    }

    private void aroundByCalls() {
        Asked q = s.stands(TERMS, "REPEATs, CALLs and SIDEs around one another,");
        Teller t = q.t;
        // 0 ROW, 1 BIND, 2 ROW, 3 LET (4 places), 7 IF, 8 < 9 10, 11 CALL, 12 WAIT 13, 14 CALL
        int again = t.row(t.count(0), t.when(t.less(t.val(0), t.sig(0)), t.call(0), t.pause(1)));
        int program = t.make(t.row(t.bind(0, again), t.call(0)));
        for (int deep = 59; deep <= 61; deep++) {
            q.signal(0, deep);
            q.runs(program, 1, deep <= 60 ? 1 : 2);
            q.value(0, Math.min(deep, 60));
            if (deep <= 60) {
                q.steps(12);
                q.tick(1, 0);
            }
        }
        q.held(0, 4, 11);
        // in seconds of their own: 0 ROW, 1 BIND, 2 ROW, 3 WAIT 4, 5 CALL, 6 CALL
        t.run(t.row(t.bind(0, t.row(t.pause(1), t.call(0))), t.call(0)));
        q.tick(59, 1);
        q.tick(1, 1);
        q.tick(1, 2);
        q.held(60, 4, 5);
        // one CALL behind the other is not around it
        t.run(t.row(t.bind(0, t.count(0)), t.repeat(t.num(100), t.call(0)), t.call(0)));
        q.tick(1, 0);
        q.value(0, 101);
    }

    private void aroundBySides() {
        Asked q = s.stands(TERMS, "REPEATs, CALLs and SIDEs around one another,");
        Teller t = q.t;
        int wait = t.pause(1);
        int side = t.side(wait, wait);
        int inner58 = t.repeats(58, side);
        int inner59 = t.repeats(1, inner58);
        sixty(q, inner58, inner59, t.repeats(1, inner59), 120);
        // 0 SIDE, 1 WAIT 2, 3 REPEAT ..: in the right branch; 0 SIDE, 1 REPEAT ..: in the left one
        int fifty8 = t.repeats(58, wait);
        int fifty9 = t.repeats(1, fifty8);
        int sixty = t.repeats(1, fifty9);
        sixty(q, t.side(wait, fifty8), t.side(wait, fifty9), t.side(wait, sixty), 3 + 2 * 59);
        sixty(q, t.side(fifty8, wait), t.side(fifty9, wait), t.side(sixty, wait), 1 + 2 * 59);
        // branches side by side are not around one another
        t.run(t.side(fifty9, fifty9));
        q.tick(1, 1);
        q.tick(1, 0);
    }

    private void aroundByAll() {
        Asked q = s.stands(TERMS, "REPEATs, CALLs and SIDEs around one another,");
        Teller t = q.t;
        int wait = t.pause(1);
        int one = t.num(1);
        int[] roots = new int[3];
        for (int k = 0; k < 3; k++) {
            int root = t.repeats(k, t.call(0));
            for (int fours = 0; fours < 14; fours++) {
                root = t.limit(one, t.side(wait, t.repeat(one, t.limit(one, root, wait))), wait);
            }
            // 14 times LIMIT, SIDE, REPEAT and LIMIT, k REPEATs, and CALL with a LIMIT and a REPEAT in it
            roots[k] = t.row(t.bind(0, t.limit(one, t.repeat(one, wait), wait)), root);
        }
        // 0 ROW, 1 BIND, 2 LIMIT 3, 4 REPEAT is the 61st
        sixty(q, roots[0], roots[1], roots[2], 4);
    }

    private void branches() {
        Asked q = s.stands(TERMS, "or more than 100 branches at once");
        Teller t = q.t;
        int wait = t.pause(1);
        for (int sides = 48; sides <= 50; sides++) {
            // the last of them stands at place 3 * (sides - 1)
            t.run(t.sides(sides, wait, wait));
            q.tick(1, sides <= 49 ? 1 : 2);
            q.step(sides - 1, sides <= 49 ? 3 * (sides - 1) + 1 : NONE);
            q.step(sides, sides <= 49 ? 3 * sides : NONE);
            q.step(sides + 1, NONE);
            if (sides <= 49) {
                q.tick(1, 0);
                q.alarm(0, 0, NONE);
            }
        }
        q.held(0, 4, 3 * 49);
        // in seconds of their own: 0 SIDE, 1 WAIT 2, 3 ROW, 4 WAIT 5, 6 SIDE
        q = s.again();
        t = q.t;
        wait = t.pause(1);
        int longer = t.pause(99);
        int all = wait;
        for (int k = 0; k < 50; k++) {
            all = t.side(longer, t.row(wait, all));
        }
        t.run(all);
        q.tick(48, 1);
        q.tick(1, 1);
        q.tick(1, 2);
        q.held(49, 4, 6 * 49);
    }

    private void branchesNotOver() {
        Asked q = s.stands(TERMS, "(one, and two for each SIDE that has begun and is not over).");
        Teller t = q.t;
        int wait = t.pause(2);
        int many = t.sides(48, wait, wait);
        // 0 SIDE, 1 WAIT 2, 3 SIDE: the left branch is over, but the SIDE is not: it and 48 are 49
        t.run(t.side(t.pause(0), many));
        q.tick(1, 1);
        q.tick(2, 0);
        // 0 SIDE, 1 SIDE 2 WAIT 3 4 WAIT 5, 6 SIDE ..: 1 and 48 and the one with a branch that is over
        t.run(t.side(t.side(t.pause(0), wait), many));
        q.tick(1, 2);
        q.held(0, 4, 6 + 3 * 47);
        // one that is over before the others begin does not count
        t.run(t.side(t.side(t.pause(0), t.pause(-1)), many));
        q.tick(1, 1);
        t.run(t.repeat(t.num(60), t.side(t.pause(0), t.pause(0))));
        q.tick(1, 0);
        // those that a LIMIT lets go do not count, either: 48 go, and in the same second 49 or 50 begin
        int all = t.side(wait, many);
        int[] programs = {t.make(t.limit(t.sig(0), many, all)), t.make(t.limit(t.sig(0), many, t.side(wait, all)))};
        for (int more = 0; more <= 1; more++) {
            q.signal(0, 1);
            q.runs(programs[more], 1, 1);
            q.step(48, 2 + 3 * 48);
            q.signal(0, 0);
            q.tick(1, more == 0 ? 1 : 2);
            // 0 LIMIT 1, 2 SIDE .. (146 places), 148 SIDE
            q.step(49, more == 0 ? 148 + 3 * 49 : NONE);
        }
        q.held(1, 4, 148 + 3 * 49);
    }

    private void countsFirst() {
        Asked q = s.stands(TERMS, "A statement that begins counts first,");
        Teller t = q.t;
        int division = t.div(t.num(1), t.num(0));
        int let = t.count(1);
        int[] kinds = {
            t.out(0, division), t.let(0, division), t.await(division), t.ramp(0, t.num(1), division),
            t.when(division, let, let), t.limit(division, let, let), t.repeat(division, let), t.call(0),
        };
        for (int kind : kinds) {
            int program = t.make(behindMany(t, kind));
            q.signal(0, 498);
            q.runs(program, 1, 2);
            q.alarm(0, 1, kind == kinds[7] ? 3 : 1);
            q.signal(0, 499);
            q.runs(program, 1, 2);
            q.held(0, 4, 7);
            q.values(499, 0);
        }
    }

    private void thenReckons() {
        Asked q = s.stands(TERMS, "then it reckons (CALL looks for its name),");
        Teller t = q.t;
        int wait = t.pause(1);
        int division = t.div(t.num(1), t.num(0));
        t.run(t.repeats(60, t.repeat(division, wait)));
        q.tick(1, 2);
        q.held(0, 1, 121);
        t.run(t.repeats(60, t.limit(division, wait, wait)));
        q.tick(1, 2);
        q.held(0, 1, 121);
        t.run(t.repeats(60, t.call(0)));
        q.tick(1, 2);
        q.held(0, 3, 120);
        // what reckons to nothing to be around does not come around
        t.run(t.repeats(60, t.row(t.repeat(t.num(0), wait), t.limit(t.num(0), wait, t.count(0)))));
        q.tick(1, 0);
        q.value(0, 1);
    }

    private void thenComesAround() {
        Asked q = s.stands(TERMS, "then it comes around (SIDE: 60, then 100).");
        Teller t = q.t;
        int wait = t.pause(1);
        t.run(t.repeats(60, t.repeat(t.num(1), wait)));
        q.tick(1, 2);
        q.held(0, 4, 120);
        t.run(t.repeats(60, t.limit(t.num(1), wait, wait)));
        q.tick(1, 2);
        q.held(0, 4, 120);
        // 0 ROW, 1 BIND 2 WAIT 3, 4 REPEAT ..
        t.run(t.row(t.bind(0, wait), t.repeats(60, t.call(0))));
        q.tick(1, 2);
        q.held(0, 4, 124);
        t.run(t.repeats(60, t.side(wait, wait)));
        q.tick(1, 2);
        q.held(0, 4, 120);
        q = s.again();
        t = q.t;
        wait = t.pause(1);
        // 49 SIDEs and 11 REPEATs around the 50th SIDE, which is the 61st, too: one alarm, of one kind
        int inner = t.repeats(11, t.side(wait, wait));
        t.run(t.sides(49, wait, inner));
        q.tick(1, 2);
        q.held(0, 4, 3 * 49 + 22);
        q.alarm(1, 0, NONE);
        t.run(t.sides(49, wait, t.repeats(11, wait)));
        q.tick(1, 1);
        t.run(t.sides(49, wait, t.repeats(12, wait)));
        q.tick(1, 2);
        q.held(0, 4, 3 * 49 + 22);
    }

    private void anAlarm() {
        Asked q = s.stands(TERMS, "A fault is an ALARM with the second, its kind,");
        Teller t = q.t;
        int[] faults = {t.out(0, t.div(t.num(1), t.num(0))), t.out(0, t.tab(t.num(10))), t.call(0),
            t.repeat(t.num(500), t.count(0))};
        int[] places = {4, 4, 3, 5};
        int wait = t.await(t.sig(0));
        for (int k = 0; k < 4; k++) {
            int program = t.make(t.row(wait, faults[k]));
            for (int second : new int[] {0, 1, 9999}) {
                q.signal(0, second);
                q.runs(program, second, 1);
                q.alarm(0, 0, NONE);
                q.tick(1, 2);
                q.held(second, k + 1, places[k]);
                q.alarm(1, 0, NONE);
            }
        }
    }

    private void placeInTheProgram() {
        Asked q = s.stands(TERMS, "and the place of that expression or statement in the program that runs then;");
        Teller t = q.t;
        int wait = t.pause(1);
        int out = t.out(0, t.div(t.num(1), t.sig(0)));
        // 0 ROW, 1 PHASE 2 WAIT 3, 4 ROW, 5 OUT 6 / 7 8, 9 OUT 10 /
        int a = t.make(t.row(t.phase(wait), t.row(out, out)));
        // 0 ROW, 1 OUT 2 / 3 4, 5 ROW, 6 PHASE 7 WAIT 8, 9 OUT 10 /
        int b = t.make(t.row(out, t.phase(wait), out));
        // 0 ROW, 1 PHASE 2 WAIT 3, 4 ROW, 5 LET 6, 7 OUT 8 /
        int c = t.make(t.row(t.phase(wait), t.let(0, t.num(1)), out));
        q.runs(a, 2, 2);
        q.held(1, 1, 6);
        q.runs(b, 1, 2);
        q.held(0, 1, 2);
        q.start(a);
        q.swap(b, 0);
        q.tick(2, 2);
        q.held(1, 1, 10);
        q.told(2, b);
        q.start(a);
        q.swap(c, 0);
        q.tick(2, 2);
        q.held(1, 1, 8);
        q.told(2, c);
    }

    private void forGood() {
        Asked q = s.stands(TERMS, "the run is HELD, for good;");
        Teller t = q.t;
        int program = t.make(t.row(t.pause(1), t.out(0, t.div(t.num(6), t.sig(0))), t.count(0)));
        q.start(program);
        q.tick(1, 1);
        q.save(0);
        q.tick(1, 2);
        String held = q.look();
        q.signal(0, 2);
        q.tick(0, 2);
        q.tick(1, 2);
        q.tick(10000, 2);
        q.swap(program, 1);
        q.looks(held);
        q.save(1);
        q.back(0, true);
        q.tick(1, 0);
        q.output(0, 3);
        q.alarm(0, 0, NONE);
        q.back(1, true);
        q.looks(held);
        q.tick(1, 2);
        q.runs(program, 2, 0);
        q.value(0, 1);
    }

    private void whatWasDone() {
        Asked q = s.stands(TERMS, "what was done in that second before it stays.");
        Teller t = q.t;
        int wait = t.pause(9);
        int fault = t.row(t.pause(2), t.count(1), t.out(1, t.num(6)), t.call(0), t.count(1), t.out(1, t.num(7)));
        int program = t.make(t.side(t.side(t.ramp(0, t.num(10), t.num(5)), fault), t.ramp(2, t.num(10), t.num(5))));
        q.runs(program, 2, 1);
        q.outputs(2, 0, 2);
        q.value(1, 0);
        q.tick(1, 2);
        q.outputs(4, 6, 2);
        q.value(1, 1);
        q.tick(1, 2);
        q.outputs(4, 6, 2);
        // in the limits: no branch has gone on yet
        q.signal(0, 1);
        t.run(t.side(t.ramp(0, t.num(10), t.num(5)), t.limit(t.div(t.num(1), t.sig(0)), wait, t.count(1))));
        q.tick(2, 1);
        q.output(0, 2);
        q.signal(0, 0);
        q.tick(1, 2);
        q.output(0, 2);
        q.value(1, 0);
    }
}
