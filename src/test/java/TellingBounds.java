/** Promises 1 to 5, what is told before a run: a test for each sentence. */
final class TellingBounds {
    private static final int NONE = Asked.NONE;
    private static final int FULL = Asked.FULL;
    private static final int LOW = Integer.MIN_VALUE;
    private static final int HIGH = Integer.MAX_VALUE;
    private static final long WORD = 1L << 32;

    private final Sentences s;

    TellingBounds(Sentences s) {
        this.s = s;
    }

    void all() {
        noNodes();
        noPrograms();
        noRun();
        signalsAreZero();
        leafNumber();
        noSuchKind();
        notZeroToFifteen();
        leafFull();
        nodeNumber();
        noSuchNode();
        partNotWhatItMustBe();
        nodeFull();
        partsNotNamed();
        programNumber();
        noStatement();
        tooManyPlaces();
        twentyPrograms();
        fromNowOn();
        noSuchSignal();
    }

    private void noNodes() {
        Asked q = s.stands("Promise 1: A new object", "No nodes,");
        for (int root = -1; root <= 1; root++) {
            q.make(root, NONE);
        }
        q.node(12, 0, 0, 0, NONE);
        q.node(14, 0, 0, 0, NONE);
        q.leaf(0, 1, 0);
        q.node(12, 0, 0, 0, 1);
        q.make(1, 0);
        s.again().leaf(0, 1, 0);
        s.again().node(19, 0, 0, 0, 0);
    }

    private void noPrograms() {
        Asked q = s.stands("Promise 1: A new object", "no programs,");
        for (int program = -1; program <= 1; program++) {
            q.start(program, NONE);
            q.shared(program, program, false);
            q.swap(program, 1);
        }
        q.t.pause(1);
        q.start(0, NONE);
        q.make(1, 0);
        q.start(0, 0);
        q.start(1, NONE);
    }

    private void noRun() {
        Asked q = s.stands("Promise 1: A new object", "no run;");
        for (int round = 0; round < 2; round++) {
            q.tick(0, 3);
            q.tick(1, 3);
            q.tick(10000, 3);
            q.outputs();
            for (int k = 0; k < 16; k++) {
                q.value(k, 0);
            }
            q.steps();
            q.alarm(0, 0, NONE);
            q.alarm(0, 1, NONE);
            q.alarm(0, 2, NONE);
            q.save(NONE);
            q.back(0, false);
            q.swap(0, 1);
            q.told(0, 0);
            q.told(1, 0);
            q.told(2, NONE);
            q.told(3, 0);
            // a program that is made is no run yet
            q.make(q.t.pause(1), round);
        }
        q.start(0, 0);
        q.tick(1, 1);
    }

    private void signalsAreZero() {
        Asked q = s.stands("Promise 1: A new object", "signals are 0.");
        Teller t = q.t;
        int all = t.let(15, t.sig(15));
        for (int k = 0; k < 15; k++) {
            all = t.row(t.let(k, t.sig(k)), all);
        }
        // each value is 9 before it becomes the signal, so that it tells whether that was 0
        int before = t.let(15, t.num(9));
        for (int k = 0; k < 15; k++) {
            before = t.row(t.let(k, t.num(9)), before);
        }
        t.run(t.row(before, all));
        q.tick(1, 0);
        for (int k = 0; k < 16; k++) {
            q.value(k, 0);
        }
        for (int k = 0; k < 16; k++) {
            q.signal(k, 100 + k);
        }
        q.runs(0, 1, 0);
        for (int k = 0; k < 16; k++) {
            q.value(k, 100 + k);
        }
    }

    private void leafNumber() {
        Asked q = s.stands("Promise 2: leaf", "A leaf: its number.");
        q.leaf(0, 9, 0);
        q.leaf(1, 9, 1);
        q.leaf(2, 9, 2);
        q.leaf(0, 9, 3);
        q.node(0, 0, 1, 0, 4);
        q.leaf(0, 9, 5);
        q.make(q.t.row(q.t.out(0, 0), q.t.out(1, 1), q.t.out(2, 2), q.t.out(3, 4)), 0);
        q.signal(9, 30);
        q.runs(0, 1, 0);
        q.outputs(9, 30, 0, 39);
    }

    private void noSuchKind() {
        Asked q = s.stands("Promise 2: leaf", "NONE, refused, when there is no such kind,");
        int next = 0;
        for (int kind : new int[] {LOW, -2, -1, 0, 1, 2, 3, 4, 30, HIGH}) {
            boolean is = kind >= 0 && kind <= 2;
            q.leaf(kind, 0, is ? next : NONE);
            q.leaf(kind, 15, is ? next + 1 : NONE);
            next += is ? 2 : 0;
        }
        q.leaf(0, 0, next);
        q.node(12, next + 1, 0, 0, NONE);
        q.node(12, next, 0, 0, next + 1);
    }

    private void notZeroToFifteen() {
        Asked q = s.stands("Promise 2: leaf", "or v of a signal or value is not 0 .. 15;");
        int next = 0;
        for (int kind = 0; kind <= 2; kind++) {
            long[] all = {Long.MIN_VALUE, -WORD, -2, -1, 0, 1, 14, 15, 16, 17, WORD, WORD + 15, Long.MAX_VALUE};
            for (long v : all) {
                boolean fits = kind == 0 || v >= 0 && v <= 15;
                q.leaf(kind, v, fits ? next : NONE);
                next += fits ? 1 : 0;
            }
        }
        q.leaf(0, 0, next);
    }

    private void leafFull() {
        Asked q = s.stands("Promise 2: leaf", "FULL.");
        for (int k = 0; k < 299; k++) {
            q.leaf(k % 3, k % 16, k);
        }
        q.leaf(3, 0, NONE);
        q.leaf(1, 16, NONE);
        q.leaf(0, 77, 299);
        q.leaf(0, 77, FULL);
        q.leaf(1, 15, FULL);
        q.leaf(2, 0, FULL);
        // a leaf that there is not is refused as such
        q.leaf(3, 0, NONE);
        q.leaf(1, 16, NONE);
        q.leaf(0, 77, FULL);
    }

    private void nodeNumber() {
        Asked q = s.stands("Promise 3: node", "A node: its number.");
        q.node(19, 0, 0, 0, 0);
        q.node(21, 0, 0, 0, 1);
        q.leaf(0, 2, 2);
        q.node(0, 2, 2, 0, 3);
        q.node(12, 3, 0, 0, 4);
        q.make(4, 0);
        q.runs(0, 4, 1);
        q.tick(1, 0);
    }

    private void noSuchNode() {
        Asked q = s.stands("Promise 3: node", "NONE, refused, when what is none of those told,");
        // 0 is an expression, 1 a statement, both are numbers in all bounds: no part is at fault
        q.leaf(0, 1, 0);
        q.node(12, 0, 0, 0, 1);
        for (int what : new int[] {LOW, -2, -1, 7, 8, 9, 22, 23, 30, 31, 32, 40, HIGH}) {
            q.node(what, 0, 0, 0, NONE);
            q.node(what, 1, 1, 1, NONE);
            q.node(what, 0, 1, 1, NONE);
            q.node(what, 0, 1, NONE, NONE);
        }
        int[][] told = {
            {0, 0, 0, 0}, {1, 0, 0, 0}, {5, 0, 0, 0}, {6, 0, 0, 0}, {10, 0, 0, 0}, {11, 0, 0, 0}, {20, 0, 1, 0},
            {21, 1, 0, 0},
        };
        for (int k = 0; k < told.length; k++) {
            q.node(told[k][0], told[k][1], told[k][2], told[k][3], 2 + k);
        }
    }

    /** What the parts must be: e an expression, s a statement, n one or NONE, o v c numbers below 8, 16 and 8. */
    private static final String[] PARTS = {
        "ee", "ee", "ee", "ee", "ee", "ee", "e", "", "", "", "oe", "ve", "e", "oee", "ss", "esn", "ess", "es", "ss",
        "c", "cs", "s",
    };

    private void partNotWhatItMustBe() {
        s.stands("Promise 3: node",
            "a part is not what it must be (an expression, a statement, a number in its bounds);");
        for (int what = 0; what < PARTS.length; what++) {
            if (!PARTS[what].isEmpty()) {
                partsOf(what);
            }
        }
    }

    /** Each part of a node in turn at its bounds and beyond them, the others being as they must be. */
    private void partsOf(int what) {
        Asked q = s.again();
        // 0 to 7 expressions, 8 to 15 statements
        for (int k = 0; k < 8; k++) {
            q.leaf(k % 3, k, k);
        }
        for (int k = 8; k < 16; k++) {
            q.node(12, k - 8, 0, 0, k);
        }
        int next = 16;
        for (int part = 0; part < PARTS[what].length(); part++) {
            for (int each : new int[] {LOW, -2, -1, 0, 1, 6, 7, 8, 9, 14, 15, 16, 17, 299, 300, HIGH}) {
                int[] parts = {-9, -9, -9};
                for (int k = 0; k < PARTS[what].length(); k++) {
                    parts[k] = PARTS[what].charAt(k) == 's' || PARTS[what].charAt(k) == 'n' ? 8 : 0;
                }
                parts[part] = each;
                boolean fits = fits(PARTS[what].charAt(part), each, next, what);
                q.node(what, parts[0], parts[1], parts[2], fits ? next : NONE);
                next += fits ? 1 : 0;
            }
        }
        q.leaf(0, 0, next);
    }

    private static boolean fits(char must, int part, int next, int what) {
        boolean isTold = part >= 0 && part < next;
        // what was told behind the 16 first ones is of the kind that is tried here
        boolean isStatement = isTold && part >= 8 && (part < 16 || what >= 10);
        switch (must) {
            case 'e':
                return isTold && !isStatement;
            case 's':
                return isStatement;
            case 'n':
                return part == NONE || isStatement;
            case 'v':
                return part >= 0 && part <= 15;
            default:
                return part >= 0 && part <= 7;
        }
    }

    private void nodeFull() {
        Asked q = s.stands("Promise 3: node", "FULL.");
        q.leaf(0, 1, 0);
        for (int k = 1; k < 299; k++) {
            q.node(12, 0, 0, 0, k);
        }
        q.node(12, 299, 0, 0, NONE);
        q.node(14, 298, 298, 0, 299);
        q.node(14, 298, 299, 0, FULL);
        q.node(12, 0, 0, 0, FULL);
        q.node(0, 0, 0, 0, FULL);
        q.node(19, 7, 0, 0, FULL);
        // a node that there is not is refused as such
        q.node(22, 0, 0, 0, NONE);
        q.node(12, 300, 0, 0, NONE);
        q.node(19, 8, 0, 0, NONE);
        q.node(12, 0, 0, 0, FULL);
        q.make(299, 0);
        q.make(300, NONE);
        q.runs(0, 2, 1);
        q.tick(1, 0);
    }

    private void partsNotNamed() {
        s.stands("Promise 3: node", "Parts that are not named are not looked at.");
        for (int what = 0; what < PARTS.length; what++) {
            int named = PARTS[what].length();
            if (named == 0 || named == 3) {
                continue;
            }
            Asked q = s.again();
            q.leaf(0, 1, 0);
            q.node(12, 0, 0, 0, 1);
            int[] not = {LOW, -2, -1, 0, 1, 2, 300, HIGH};
            for (int k = 0; k < not.length; k++) {
                int a = PARTS[what].charAt(0) == 's' ? 1 : 0;
                int b = named == 1 ? not[k] : PARTS[what].charAt(1) == 's' ? 1 : 0;
                int root = q.node(what, a, b, not[k], 2 + k);
                if (what >= 10) {
                    q.make(root, k);
                    // nor do they make two programs different
                    q.shared(0, k, true);
                }
            }
        }
    }

    private void programNumber() {
        Asked q = s.stands("Promise 4: make", "A program: its number, from 0.");
        Teller t = q.t;
        int wait = t.pause(1);
        int other = t.pause(2);
        q.make(wait, 0);
        q.start(1, NONE);
        q.make(other, 1);
        q.make(wait, 2);
        q.make(99, NONE);
        q.make(other, 3);
        q.runs(3, 2, 1);
        q.runs(2, 2, 0);
        q.start(4, NONE);
    }

    private void noStatement() {
        Asked q = s.stands("Promise 4: make", "NONE, refused, when root is no statement,");
        q.leaf(0, 1, 0);
        q.node(12, 0, 0, 0, 1);
        q.node(6, 0, 0, 0, 2);
        int program = 0;
        for (int root : new int[] {LOW, -2, -1, 0, 1, 2, 3, 4, 299, 300, HIGH}) {
            q.make(root, root == 1 ? program++ : NONE);
        }
        q.start(1, NONE);
        q.make(1, 1);
        q.start(1, 0);
    }

    private void tooManyPlaces() {
        Asked q = s.stands("Promise 4: make", "or it has more than 500 places;");
        Teller t = q.t;
        int s498 = TermsBounds.sum(t, 248);
        int s499 = t.phase(s498);
        int s500 = t.phase(s499);
        int s501 = t.phase(s500);
        q.make(s501, NONE);
        q.make(s500, 0);
        q.make(s501, NONE);
        q.make(t.phase(s501), NONE);
        q.make(t.row(s500, s500), NONE);
        q.make(s499, 1);
        q.shared(0, 1, false);
        for (int program = 0; program <= 1; program++) {
            q.runs(program, 1, 0);
            q.output(0, 249);
        }
        // so many that their number would wrap: 2 ^ 40 WAITs, and the ROWs
        int twice = t.pause(1);
        for (int k = 0; k < 40; k++) {
            twice = t.row(twice, twice);
            q.make(twice, k < 7 ? k + 2 : NONE);
        }
        q.start(9, NONE);
    }

    private void twentyPrograms() {
        Asked q = s.stands("Promise 4: make", "FULL when there are 20.");
        Teller t = q.t;
        int wait = t.pause(1);
        int large = TermsBounds.sum(t, 249);
        int larger = t.phase(large);
        for (int k = 0; k < 19; k++) {
            q.make(k % 2 == 0 ? wait : t.pause(k), k);
        }
        q.make(0, NONE);
        q.make(larger, NONE);
        q.start(19, NONE);
        q.make(large, 19);
        q.make(wait, FULL);
        q.make(large, FULL);
        q.make(0, NONE);
        q.make(larger, NONE);
        q.make(wait, FULL);
        q.start(20, NONE);
        q.runs(19, 1, 0);
        q.output(0, 250);
        q.told(2, 19);
    }

    private void fromNowOn() {
        Asked q = s.stands("Promise 5: signal", "A signal is v from now on.");
        Teller t = q.t;
        int all = t.pause(1);
        int[] asked = {0, 1, 14, 15};
        for (int k = 0; k < 4; k++) {
            all = t.row(t.out(k, t.sig(asked[k])), all);
        }
        int program = t.make(t.repeat(t.num(99), all));
        q.signal(0, Long.MIN_VALUE);
        q.runs(program, 1, 1);
        q.outputs(Long.MIN_VALUE);
        q.signal(1, Long.MAX_VALUE);
        q.signal(14, -1);
        q.signal(15, WORD);
        q.outputs(Long.MIN_VALUE);
        q.tick(1, 1);
        q.outputs(Long.MIN_VALUE, Long.MAX_VALUE, -1, WORD);
        q.signal(0, 0);
        q.signal(0, 3);
        q.tick(1, 1);
        q.outputs(3, Long.MAX_VALUE, -1, WORD);
        q.save(0);
        q.signal(0, 4);
        q.back(0, true);
        q.start(program);
        q.tick(5, 1);
        q.outputs(4, Long.MAX_VALUE, -1, WORD);
    }

    private void noSuchSignal() {
        Asked q = s.stands("Promise 5: signal", "False, refused, when there is none such.");
        Teller t = q.t;
        int all = t.let(15, t.sig(15));
        for (int k = 0; k < 15; k++) {
            all = t.row(t.let(k, t.sig(k)), all);
        }
        int program = t.make(all);
        for (int k : new int[] {LOW, -16, -2, -1, 16, 17, 31, HIGH}) {
            q.signal(k, 7, false);
        }
        q.runs(program, 1, 0);
        for (int k = 0; k < 16; k++) {
            q.value(k, 0);
        }
        q.signal(0, 100, true);
        q.signal(1, 101, true);
        q.signal(14, 114, true);
        q.signal(15, 115, true);
        q.signal(-1, 7, false);
        q.signal(16, 7, false);
        q.runs(program, 1, 0);
        for (int k = 0; k < 16; k++) {
            q.value(k, k < 2 || k > 13 ? 100 + k : 0);
        }
    }
}
