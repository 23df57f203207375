/** The document's Terms, from the leaves to the phases: a test for each sentence. */
final class TermsBounds {
    private static final int NONE = Asked.NONE;
    private static final int FULL = Asked.FULL;
    private static final String TERMS = "Terms";
    private static final long MIN = Long.MIN_VALUE;
    private static final long MAX = Long.MAX_VALUE;
    private static final long WORD = 1L << 32;

    private final Sentences s;

    TermsBounds(Sentences s) {
        this.s = s;
    }

    void all() {
        numberedTogether();
        partsBefore();
        wrapping();
        numbers();
        signalLeaves();
        valueLeaves();
        s.leads(TERMS, "Nodes:");
        sums();
        differences();
        products();
        quotients();
        less();
        equal();
        inTheTable();
        s.leads(TERMS, "STATEMENTS: nodes");
        outs();
        lets();
        waits();
        ramps();
        rows();
        ifs();
        limits();
        repeats();
        sides();
        calls();
        binds();
        phaseDoes();
        programs();
        placesFromZero();
        placesInOrder();
        numbersAreNone();
        fiveHundred();
        sharing();
        phases();
    }

    private void numberedTogether() {
        Asked q = s.stands(TERMS, "LEAVES AND NODES are numbered together from 0 as they are told, at most 300");
        q.leaf(0, 7, 0);
        q.node(12, 0, 0, 0, 1);
        q.leaf(3, 0, NONE);
        q.node(12, 1, 0, 0, NONE);
        q.leaf(0, 7, 2);
        for (int k = 3; k < 298; k++) {
            q.node(12, 2, 0, 0, k);
        }
        q.leaf(0, 8, 298);
        q.node(12, 298, 0, 0, 299);
        q.node(12, 298, 0, 0, FULL);
        q.leaf(0, 9, FULL);
        q.node(12, 0, 0, 0, FULL);
        q.make(300, NONE);
        q.make(299, 0);
        q.make(1, 1);
        q.runs(0, 8, 1);
        q.tick(1, 0);
        q.runs(1, 7, 1);
        q.tick(1, 0);
        q = s.again();
        q.leaf(0, 1, 0);
        for (int k = 1; k < 299; k++) {
            q.node(12, 0, 0, 0, k);
        }
        q.leaf(0, 2, 299);
        q.leaf(0, 2, FULL);
        q.node(12, 299, 0, 0, FULL);
        q.make(298, 0);
        q.make(299, NONE);
    }

    private void partsBefore() {
        Asked q = s.stands(TERMS, "parts of a node are told before it.");
        q.node(6, 0, 0, 0, NONE);
        q.leaf(0, 3, 0);
        q.node(6, 1, 0, 0, NONE);
        q.node(6, 2, 0, 0, NONE);
        q.node(6, 0, 0, 0, 1);
        q.node(12, 2, 0, 0, NONE);
        q.node(12, 1, 0, 0, 2);
        q.node(14, 2, 3, 0, NONE);
        q.node(14, 3, 2, 0, NONE);
        q.node(15, 0, 2, 3, NONE);
        q.node(16, 0, 2, 3, NONE);
        q.node(14, 2, 2, 0, 3);
        q.node(14, 3, 4, 0, NONE);
        q.node(14, 2, 3, 0, 4);
        q.make(5, NONE);
        q.make(4, 0);
        q.runs(0, 15, 1);
        q.tick(1, 0);
    }

    /** Each row: the parts a and b, and what comes of them. */
    private void reckoned(Asked q, int what, long[][] rows) {
        Teller t = q.t;
        int program = t.make(t.out(0, t.op(what, t.sig(0), t.sig(1))));
        for (long[] row : rows) {
            q.signal(0, row[0]);
            q.signal(1, row[1]);
            q.runs(program, 1, 0);
            q.output(0, row[2]);
        }
    }

    private void wrapping() {
        Asked q = s.stands(TERMS, "EXPRESSIONS (64 bits, wrapping):");
        Teller t = q.t;
        int back = t.sub(t.add(t.sig(0), t.num(1)), t.num(1));
        int half = t.div(t.times(t.sig(0), t.num(2)), t.num(2));
        int program = t.make(t.row(t.let(1, back), t.let(2, half), t.out(0, t.val(1)), t.out(1, t.val(2))));
        long[][] rows = {
            {MAX, -1}, {MAX - 1, -2}, {MIN, 0}, {MIN + 1, 1}, {1L << 62, -(1L << 62)},
            {(1L << 62) - 1, (1L << 62) - 1}, {-(1L << 62), -(1L << 62)}, {-(1L << 62) - 1, (1L << 62) - 1},
            {WORD, WORD}, {WORD - 1, WORD - 1}, {WORD / 2, WORD / 2}, {-WORD, -WORD},
        };
        for (long[] row : rows) {
            q.signal(0, row[0]);
            q.runs(program, 1, 0);
            q.outputs(row[0], row[1]);
            q.values(0, row[0], row[1]);
        }
    }

    private void numbers() {
        Asked q = s.stands(TERMS, "a leaf of kind 0 the number v,");
        long[] all = {MIN, MIN + 1, -WORD, -1, 0, 1, 15, 16, WORD / 2 - 1, WORD / 2, WORD - 1, WORD, MAX - 1, MAX};
        for (int k = 0; k < all.length; k++) {
            int leaf = q.leaf(0, all[k], 2 * k);
            q.make(q.t.out(3, leaf), k);
            q.runs(k, 1, 0);
            q.outputs(0, 0, 0, all[k]);
        }
    }

    private void signalLeaves() {
        Asked q = s.stands(TERMS, "1 signal v (0 .. 15),");
        for (int k = 0; k < 16; k++) {
            q.signal(k, 100 + k);
        }
        leavesFromZeroToFifteen(q, 1);
    }

    private void valueLeaves() {
        Asked q = s.stands(TERMS, "2 value v (0 .. 15).");
        leavesFromZeroToFifteen(q, 2);
    }

    private void leavesFromZeroToFifteen(Asked q, int kind) {
        Teller t = q.t;
        int first = t.let(0, t.num(100));
        for (int k = 1; k < 16; k++) {
            first = t.row(first, t.let(k, t.num(100 + k)));
        }
        int next = 47;
        int program = 0;
        q.leaf(kind, -1, NONE);
        for (int k : new int[] {0, 1, 14, 15}) {
            int root = t.row(first, t.out(2, q.leaf(kind, k, next)));
            next += 3;
            q.make(root, program);
            q.runs(program, 1, 0);
            q.output(2, 100 + k);
            program++;
        }
        q.leaf(kind, 16, NONE);
        q.leaf(kind, WORD, NONE);
        q.leaf(kind, WORD + 1, NONE);
        q.leaf(kind, MIN, NONE);
        q.leaf(kind, MAX, NONE);
        q.leaf(kind, 15, next);
    }

    private void sums() {
        reckoned(s.stands(TERMS, "0 a + b,"), 0, new long[][] {
            {2, 3, 5}, {3, -5, -2}, {MAX - 1, 1, MAX}, {MAX, 1, MIN}, {MAX, 2, MIN + 1}, {1, MAX, MIN},
            {MIN + 1, -1, MIN}, {MIN, -1, MAX}, {MIN, -2, MAX - 1}, {MAX, MAX, -2}, {MIN, MIN, 0}, {MIN, MAX, -1},
            {WORD - 1, 1, WORD}, {WORD / 2 - 1, 1, WORD / 2},
        });
    }

    private void differences() {
        reckoned(s.stands(TERMS, "1 a - b,"), 1, new long[][] {
            {2, 3, -1}, {3, 2, 1}, {MIN + 1, 1, MIN}, {MIN, 1, MAX}, {MIN, 2, MAX - 1}, {MAX - 1, -1, MAX},
            {MAX, -1, MIN}, {MAX, -2, MIN + 1}, {-1, MIN, MAX}, {0, MIN, MIN}, {1, MIN, MIN + 1}, {0, MAX, MIN + 1},
            {WORD, 1, WORD - 1},
        });
    }

    private void products() {
        reckoned(s.stands(TERMS, "2 a * b,"), 2, new long[][] {
            {2, 3, 6}, {-2, 3, -6}, {-2, -3, 6}, {0, MIN, 0}, {1L << 62, 1, 1L << 62}, {1L << 62, 2, MIN},
            {(1L << 62) - 1, 2, MAX - 1}, {1L << 62, 4, 0}, {MAX, 2, -2}, {MIN, -1, MIN}, {MAX, -1, MIN + 1},
            {3037000499L, 3037000499L, 9223372030926249001L}, {3037000500L, 3037000500L, -9223372036709301616L},
            {WORD / 2, 2, WORD}, {65536, 65536, WORD},
        });
    }

    private void quotients() {
        reckoned(s.stands(TERMS, "3 a / b (towards 0),"), 3, new long[][] {
            {6, 2, 3}, {7, 2, 3}, {8, 2, 4}, {-6, 2, -3}, {-7, 2, -3}, {-8, 2, -4}, {7, -2, -3}, {-7, -2, 3},
            {1, 2, 0}, {-1, 2, 0}, {1, -2, 0}, {0, -5, 0}, {9, 1, 9}, {9, -1, -9}, {MIN, 1, MIN}, {MIN, -1, MIN},
            {MIN + 1, -1, MAX}, {MAX, -1, MIN + 1}, {MIN, 2, -(1L << 62)}, {MAX, MIN, 0}, {MIN, MAX, -1},
        });
    }

    private void less() {
        reckoned(s.stands(TERMS, "4 a < b,"), 4, new long[][] {
            {-1, 0, 1}, {0, 0, 0}, {1, 0, 0}, {4, 5, 1}, {5, 5, 0}, {6, 5, 0}, {MIN, MAX, 1}, {MAX, MIN, 0},
            {MIN, MIN + 1, 1}, {MIN, MIN, 0}, {MAX - 1, MAX, 1}, {MAX, MAX, 0}, {WORD, 1, 0}, {0, WORD, 1},
        });
    }

    private void equal() {
        reckoned(s.stands(TERMS, "5 a = b (1 or 0),"), 5, new long[][] {
            {-1, 0, 0}, {0, 0, 1}, {1, 0, 0}, {4, 5, 0}, {5, 5, 1}, {6, 5, 0}, {MIN, MAX, 0}, {MIN, MIN, 1},
            {MAX, MAX, 1}, {WORD, 0, 0}, {WORD + 7, 7, 0}, {200, 200, 1},
        });
    }

    private void inTheTable() {
        Asked q = s.stands(TERMS, "6 a's number in the TABLE, which has 1 2 3 5 8 13 21 34 55 89 at 0 .. 9.");
        Teller t = q.t;
        int program = t.make(t.out(0, t.tab(t.sig(0))));
        int[] table = {1, 2, 3, 5, 8, 13, 21, 34, 55, 89};
        for (int i = 0; i < 10; i++) {
            q.signal(0, i);
            q.runs(program, 1, 0);
            q.output(0, table[i]);
            q.table(i, table[i]);
        }
        for (long i : new long[] {-1, 10, 11, WORD, WORD + 9, MIN, MAX}) {
            q.signal(0, i);
            q.runs(program, 1, 2);
            q.held(0, 2, 1);
            q.output(0, 0);
        }
    }

    /** A node that sets number a of what there are 0 to most; its other parts are the number 5. */
    private int[] settersOf(Asked q, int what, int most) {
        q.leaf(0, 5, 0);
        int[] set = {0, 1, most - 1, most};
        q.node(what, -1, 0, 0, NONE);
        for (int k = 0; k < 4; k++) {
            q.node(what, set[k], 0, 0, k + 1);
            q.make(k + 1, k);
        }
        q.node(what, most + 1, 0, 0, NONE);
        q.node(what, Integer.MAX_VALUE, 0, 0, NONE);
        q.node(what, Integer.MIN_VALUE, 0, 0, NONE);
        return set;
    }

    private void outs() {
        Asked q = s.stands(TERMS, "10 OUT a b: output a (0 .. 7) becomes expression b.");
        int[] set = settersOf(q, 10, 7);
        for (int k = 0; k < 4; k++) {
            q.runs(k, 1, 0);
            for (int other = -1; other <= 8; other++) {
                q.output(other, other == set[k] ? 5 : 0);
            }
            q.value(set[k], 0);
        }
        q.node(12, 0, 0, 0, 5);
    }

    private void lets() {
        Asked q = s.stands(TERMS, "11 LET a b: value a (0 .. 15) becomes b.");
        int[] set = settersOf(q, 11, 15);
        for (int k = 0; k < 4; k++) {
            q.runs(k, 1, 0);
            for (int other = -1; other <= 16; other++) {
                q.value(other, other == set[k] ? 5 : 0);
            }
            q.outputs();
        }
        q.node(12, 0, 0, 0, 5);
    }

    private void waits() {
        Asked q = s.stands(TERMS, "12 WAIT a: so many seconds.");
        Teller t = q.t;
        int program = t.make(t.await(t.sig(0)));
        for (int n = 1; n <= 3; n++) {
            q.signal(0, n);
            q.runs(program, n, 1);
            q.steps(0);
            q.tick(1, 0);
            q.steps();
            q.told(0, n + 1);
        }
    }

    private void ramps() {
        Asked q = s.stands(TERMS, "13 RAMP a b c: output a comes to b in c seconds.");
        int[] set = settersOf(q, 13, 7);
        for (int k = 0; k < 4; k++) {
            q.runs(k, 5, 1);
            q.output(set[k], 4);
            q.tick(1, 0);
            for (int other = -1; other <= 8; other++) {
                q.output(other, other == set[k] ? 5 : 0);
            }
        }
        q.node(12, 0, 0, 0, 5);
    }

    private void rows() {
        Asked q = s.stands(TERMS, "14 ROW a b: statement a, then b.");
        Teller t = q.t;
        t.run(t.row(t.mark(1), t.mark(2)));
        q.tick(1, 0);
        q.value(0, 12);
        t.run(t.row(t.row(t.mark(1), t.pause(1)), t.row(t.mark(2), t.pause(1))));
        q.tick(1, 1);
        q.value(0, 1);
        q.tick(1, 1);
        q.value(0, 12);
        q.tick(1, 0);
        int e = t.num(1);
        int wait = t.pause(1);
        q.node(14, e, wait, 0, NONE);
        q.node(14, wait, e, 0, NONE);
        q.node(14, wait, NONE, 0, NONE);
        q.node(14, NONE, wait, 0, NONE);
        q.node(14, wait, wait, 0, wait + 1);
    }

    private void ifs() {
        Asked q = s.stands(TERMS, "15 IF a b c: b, if a is not 0, else c (NONE: nothing).");
        Teller t = q.t;
        int e = t.sig(0);
        int one = t.count(0);
        int other = t.count(1);
        int third = t.count(2);
        q.node(15, e, one, -3, NONE);
        q.node(15, e, one, -2, NONE);
        q.node(15, e, one, e, NONE);
        q.node(15, e, NONE, one, NONE);
        int both = q.node(15, e, one, other, third + 1);
        int alone = q.node(15, e, third, NONE, third + 2);
        q.node(15, e, one, third + 3, NONE);
        q.make(t.row(both, alone, t.count(3)), 0);
        for (long a : new long[] {-1, 0, 1, MIN, WORD, 0, MAX}) {
            q.signal(0, a);
            q.runs(0, 1, 0);
            q.values(a != 0 ? 1 : 0, a == 0 ? 1 : 0, a != 0 ? 1 : 0, 1);
        }
    }

    private void limits() {
        Asked q = s.stands(TERMS, "16 LIMIT a b c: below.");
        int e = q.t.num(1);
        int wait = q.t.await(e);
        q.node(16, e, wait, -2, NONE);
        q.node(16, e, wait, NONE, NONE);
        q.node(16, e, wait, e, NONE);
        q.node(16, e, NONE, wait, NONE);
        q.node(16, wait, wait, wait, NONE);
        q.node(16, e, wait, wait, 2);
        q.node(16, e, wait, 3, NONE);
        q.node(16, e, 2, 2, 3);
    }

    private void repeats() {
        Asked q = s.stands(TERMS, "17 REPEAT a b: b a times.");
        Teller t = q.t;
        int program = t.make(t.row(t.repeat(t.sig(0), t.count(0)), t.count(1)));
        for (int a = 0; a <= 4; a++) {
            q.signal(0, a);
            q.runs(program, 1, 0);
            q.values(a, 1);
        }
        t.run(t.repeat(t.num(2), t.row(t.count(0), t.pause(1))));
        q.tick(1, 1);
        q.value(0, 1);
        q.tick(1, 1);
        q.value(0, 2);
        q.tick(1, 0);
        q.value(0, 2);
    }

    private void sides() {
        Asked q = s.stands(TERMS, "18 SIDE a b: both side by side.");
        Teller t = q.t;
        // 0 SIDE, 1 ROW, 2 LET (6 places), 8 WAIT 9, 10 ROW, 11 LET (6), 17 WAIT 18
        t.run(t.side(t.row(t.mark(1), t.pause(1)), t.row(t.mark(2), t.pause(1))));
        q.tick(1, 1);
        q.value(0, 12);
        q.steps(8, 17);
        q.tick(1, 0);
        q.told(0, 2);
    }

    private void calls() {
        Asked q = s.stands(TERMS, "19 CALL a: what name a (0 .. 7) means.");
        Teller t = q.t;
        q.node(19, -1, 0, 0, NONE);
        q.node(19, 0, 0, 0, 0);
        q.node(19, 1, 0, 0, 1);
        q.node(19, 6, 0, 0, 2);
        q.node(19, 7, 0, 0, 3);
        q.node(19, 8, 0, 0, NONE);
        q.node(19, Integer.MIN_VALUE, 0, 0, NONE);
        q.node(19, Integer.MAX_VALUE, 0, 0, NONE);
        int[] names = {0, 1, 6, 7};
        int bound = t.count(0);
        for (int name = 0; name < 8; name++) {
            bound = t.row(t.bind(name, t.let(1, t.num(100 + name))), bound);
        }
        for (int k = 0; k < 4; k++) {
            t.run(t.row(bound, k));
            q.tick(1, 0);
            q.values(1, 100 + names[k]);
        }
    }

    private void binds() {
        Asked q = s.stands(TERMS, "20 BIND a b: name a means statement b from now on.");
        Teller t = q.t;
        int one = t.count(0);
        int two = t.count(1);
        q.node(20, -1, one, 0, NONE);
        q.node(20, 8, one, 0, NONE);
        q.node(20, Integer.MIN_VALUE, one, 0, NONE);
        for (int name : new int[] {0, 1, 6, 7}) {
            t.run(t.row(t.bind(name, one), t.row(t.pause(1), t.call(name)), t.bind(name, two), t.call(name)));
            q.tick(1, 1);
            q.values(0, 0);
            q.tick(1, 0);
            q.values(1, 1);
            // 0 ROW, 1 BIND (5 places), 6 CALL of the name on either side
            t.run(t.row(t.bind(name, one), t.call(name == 7 ? 6 : name + 1)));
            q.tick(1, 2);
            q.held(0, 3, 6);
            t.run(t.row(t.bind(name, one), t.call(name == 0 ? 7 : name - 1)));
            q.tick(1, 2);
            q.held(0, 3, 6);
        }
        t.run(t.row(t.call(0), t.bind(0, one)));
        q.tick(1, 2);
        q.held(0, 3, 1);
    }

    private void phaseDoes() {
        Asked q = s.stands(TERMS, "21 PHASE a: statement a.");
        Teller t = q.t;
        t.run(t.row(t.phase(t.mark(1)), t.mark(2)));
        q.tick(1, 0);
        q.value(0, 12);
        t.run(t.phase(t.pause(1)));
        q.tick(1, 1);
        q.steps(1);
        q.tick(1, 0);
        q.node(21, t.num(1), 0, 0, NONE);
        q.node(21, NONE, 0, 0, NONE);
    }

    private void programs() {
        Asked q = s.stands(TERMS, "A PROGRAM is a statement.");
        q.leaf(0, 1, 0);
        q.leaf(1, 1, 1);
        q.leaf(2, 1, 2);
        for (int what = 0; what <= 6; what++) {
            q.node(what, 0, 0, 0, 3 + what);
        }
        for (int root = 0; root <= 9; root++) {
            q.make(root, NONE);
        }
        q.node(12, 0, 0, 0, 10);
        int[][] parts = {
            {10, 0, 0, 0}, {11, 0, 0, 0}, {12, 0, 0, 0}, {13, 0, 0, 0}, {14, 10, 10, 0}, {15, 0, 10, 10},
            {16, 0, 10, 10}, {17, 0, 10, 0}, {18, 10, 10, 0}, {19, 0, 0, 0}, {20, 0, 10, 0}, {21, 10, 0, 0},
        };
        for (int k = 0; k < parts.length; k++) {
            q.node(parts[k][0], parts[k][1], parts[k][2], parts[k][3], 11 + k);
            q.make(11 + k, k);
            q.start(k);
            q.told(2, k);
        }
        q.make(23, NONE);
    }

    private void placesFromZero() {
        Asked q = s.stands(TERMS, "Its PLACES are numbered from 0:");
        Teller t = q.t;
        t.run(t.pause(1));
        q.steps();
        q.tick(1, 1);
        q.steps(0);
        t.run(t.ramp(0, t.num(1), t.num(1)));
        q.tick(1, 1);
        q.steps(0);
        t.run(t.call(0));
        q.tick(1, 2);
        q.held(0, 3, 0);
        t.run(t.row(t.pause(1), t.pause(1)));
        q.tick(1, 1);
        q.steps(1);
        t.run(t.out(0, t.div(t.num(1), t.num(0))));
        q.tick(1, 2);
        q.held(0, 1, 1);
    }

    private void placesInOrder() {
        Asked q = s.stands(TERMS,
            "a statement or expression before its parts, these from the left, each time that it stands there;");
        Teller t = q.t;
        int wait = t.pause(1);
        int both = t.side(wait, wait);
        // 0 ROW, 1 SIDE 2 WAIT 3, 4 WAIT 5, 6 ROW, 7 SIDE 8 WAIT 9, 10 WAIT 11, 12 IF 13, 14 WAIT 15, 16 WAIT 17
        int all = t.row(both, both, t.when(t.sig(0), wait, wait));
        int program = t.make(all);
        for (int a = 0; a <= 1; a++) {
            q.signal(0, a);
            q.runs(program, 1, 1);
            q.steps(2, 4);
            q.tick(1, 1);
            q.steps(8, 10);
            q.tick(1, 1);
            q.steps(a == 1 ? 14 : 16);
            q.tick(1, 0);
        }
        // 0 RAMP, 1 +, 2 - 3 4, 5 / 6 7, 8 TABLE, 9 * 10 11
        int division = t.div(t.num(1), t.sig(0));
        int table = t.tab(t.times(t.num(10), t.sig(1)));
        program = t.make(t.ramp(0, t.add(t.sub(t.num(1), t.num(2)), division), table));
        q.signal(0, 0);
        q.signal(1, 1);
        q.runs(program, 1, 2);
        q.held(0, 1, 5);
        q.signal(0, 1);
        q.runs(program, 1, 2);
        q.held(0, 2, 8);
        q.signal(1, 0);
        q.runs(program, 1, 1);
        q.steps(0);
        // 0 LIMIT, 1 / 2 3, 4 WAIT 5, 6 REPEAT, 7 TABLE 8 * 9 10, 11 WAIT
        q.signal(0, 1);
        program = t.make(t.limit(division, wait, t.repeat(table, wait)));
        q.runs(program, 1, 1);
        q.steps(4);
        q.signal(0, -2);
        q.runs(program, 1, 1);
        q.steps(11);
    }

    private void numbersAreNone() {
        Asked q = s.stands(TERMS, "numbers of outputs, values and names are none.");
        Teller t = q.t;
        int wait = t.pause(1);
        // 0 ROW, 1 OUT 2, 3 ROW, 4 WAIT 5, 6 ROW, 7 LET 8, 9 ROW, 10 WAIT 11, 12 ROW, 13 BIND 14 WAIT 15,
        // 16 ROW, 17 CALL, 18 ROW, 19 RAMP 20 21, 22 WAIT
        t.run(t.row(t.out(7, t.num(1)), wait, t.let(15, t.num(1)), wait, t.bind(7, wait), t.call(7),
            t.ramp(7, t.num(1), t.num(1)), wait));
        for (int place : new int[] {4, 10, 14, 19, 22}) {
            q.tick(1, 1);
            q.steps(place);
        }
        q.tick(1, 0);
    }

    /** OUT 0 1 + 1 + .. : 2 places, and 2 more for each +. */
    static int sum(Teller t, int adds) {
        int one = t.num(1);
        int all = one;
        for (int k = 0; k < adds; k++) {
            all = t.add(all, one);
        }
        return t.out(0, all);
    }

    private void fiveHundred() {
        Asked q = s.stands(TERMS, "A program has at most 500.");
        Teller t = q.t;
        int s498 = sum(t, 248);
        int s499 = t.phase(s498);
        int s500 = t.phase(s499);
        int s501 = t.phase(s500);
        int row500 = t.row(s498, t.call(0));
        int row501 = t.row(s498, t.pause(1));
        int row502 = t.row(s499, t.pause(1));
        q.make(s499, 0);
        q.make(s501, NONE);
        q.make(row501, NONE);
        q.make(row502, NONE);
        q.make(s500, 1);
        q.make(row500, 2);
        q.runs(0, 1, 0);
        q.output(0, 249);
        q.runs(1, 1, 0);
        q.output(0, 249);
        q.told(1, 1);
        q.runs(2, 1, 2);
        q.held(0, 3, 499);
        q.start(3, NONE);
        // each time that it stands there: 2 places, and 3 more for each doubling's ROW
        q = s.again();
        t = q.t;
        int wait = t.pause(1);
        int twice = wait;
        for (int k = 0; k < 280; k++) {
            twice = t.row(twice, twice);
            if (k == 6 || k == 7) {
                q.make(twice, k == 6 ? 0 : NONE);
            }
        }
        q.make(twice, NONE);
        q.runs(0, 128, 1);
        q.tick(1, 0);
    }

    private void sharing() {
        Asked q = s.stands(TERMS, "Equal programs (the same at each place) share their rows.");
        Teller t = q.t;
        int wait = t.pause(1);
        int zero = t.num(0);
        int[] roots = {
            t.row(t.out(1, t.num(5)), wait), t.row(t.out(1, t.num(5)), t.pause(1)),
            t.row(t.out(2, t.num(5)), wait), t.row(t.out(0, t.num(5)), wait), t.row(t.out(1, t.num(6)), wait),
            t.row(t.out(1, t.num(5 + WORD)), wait), t.row(t.out(1, t.val(5)), wait), t.row(t.out(1, t.sig(5)), wait),
            t.row(t.let(1, t.num(5)), wait), t.row(t.out(1, t.num(5)), t.pause(2)),
            t.side(t.out(1, t.num(5)), wait), t.row(t.row(t.out(1, t.num(5)), wait), wait), t.out(1, t.num(5)),
            t.when(zero, t.when(zero, wait, wait), NONE), t.when(zero, t.when(zero, wait, NONE), wait),
            t.row(wait, t.row(wait, wait)), t.row(t.row(wait, wait), wait),
        };
        for (int k = 0; k < roots.length; k++) {
            q.make(roots[k], k);
        }
        for (int a = 0; a < roots.length; a++) {
            for (int b = a; b < roots.length; b++) {
                q.shared(a, b, a == b || b == 1);
            }
        }
        q.make(roots[16], 17);
        q.shared(17, 16, true);
        q.shared(17, 15, false);
        q.shared(1, 0, true);
        q.start(1);
        q.told(2, 0);
        q.start(17);
        q.told(2, 16);
        q.start(2);
        q.told(2, 2);
    }

    private void phases() {
        Asked q = s.stands(TERMS, "Its PHASES are those PHASEs that stand in it by ROWs alone, in order.");
        Teller t = q.t;
        int p = t.phase(t.mark(1));
        int e = t.num(1);
        int zero = t.num(0);
        int[] none = {
            t.when(e, p, NONE), t.when(zero, p, p), t.limit(e, p, p), t.limit(zero, p, p), t.repeat(e, p),
            t.side(p, p), t.row(t.bind(0, p), t.call(0)), t.mark(1),
        };
        for (int root : none) {
            t.run(root);
            q.tick(1, 0);
            q.told(1, 0);
            t.run(t.row(root, p));
            q.tick(1, 0);
            q.told(1, 1);
        }
        q = s.again();
        t = q.t;
        p = t.phase(t.mark(1));
        int[] roots = {p, t.phase(p), t.row(p, p), t.row(t.row(p, p), t.row(t.mark(2), p)), t.phase(t.row(p, p))};
        int[] many = {1, 1, 2, 3, 1};
        for (int k = 0; k < roots.length; k++) {
            t.run(roots[k]);
            q.told(1, 0);
            q.tick(1, 0);
            q.told(1, many[k]);
        }
        // in order: behind phase k of b there stands the mark k
        int b = t.make(t.row(t.row(p, t.mark(2)), t.row(t.row(p, t.mark(3)), t.row(p, t.mark(4)))));
        int a = t.make(t.row(t.phase(t.pause(1)), t.row(t.phase(t.pause(1)), t.phase(t.pause(1)))));
        long[] due = {21314, 314, 4};
        for (int over = 1; over <= 3; over++) {
            q.runs(a, over, 1);
            q.swap(b, 0);
            q.tick(1, 0);
            q.value(0, due[over - 1]);
        }
    }
}
