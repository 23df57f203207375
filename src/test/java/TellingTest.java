/** Promises 1 to 3: a new object, leaf, node. And 16: table. */
public final class TellingTest {
    private static final int[] TABLE = {1, 2, 3, 5, 8, 13, 21, 34, 55, 89};
    private static final Due due = new Due("TellingTest");

    public static void main(String[] args) {
        newObject();
        leaves();
        nodes();
        partsNotNamed();
        full();
        table();
        due.end();
    }

    private static void newObject() {
        StepRows x = new StepRows();
        due.is("tick(1)", x.tick(1), 3);
        due.is("tick(0)", x.tick(0), 3);
        due.is("tick(-1)", x.tick(-1), -1);
        due.is("make(0)", x.make(0), -1);
        due.is("make(-1)", x.make(-1), -1);
        due.is("start(0)", x.start(0), -1);
        due.is("save()", x.save(), -1);
        due.is("back(0)", x.back(0), false);
        due.is("swap(0)", x.swap(0), 1);
        due.is("shared(0, 0)", x.shared(0, 0), false);
        due.is("step(0)", x.step(0), -1);
        due.is("alarm(0, 0)", x.alarm(0, 0), -1);
        for (int k = -1; k <= 16; k++) {
            due.is("output", x.output(k), 0);
            due.is("value", x.value(k), 0);
        }
        int[] told = {-1, 0, 0, -1, 0, -1};
        for (int what = -1; what <= 4; what++) {
            due.is("told(" + what + ")", x.told(what), told[what + 1]);
        }
        Teller t = new Teller(x);
        int all = t.out(0, t.num(1));
        for (int k = 0; k < 16; k++) {
            all = t.row(t.out(1, t.add(t.sig(k), t.val(k))), t.when(t.sig(k), t.out(0, t.num(0)), -1), all);
        }
        t.run(all);
        due.is("signals are 0: tick(1)", x.tick(1), 0);
        due.is("signals are 0: output(0)", x.output(0), 1);
    }

    private static void leaves() {
        StepRows x = new StepRows();
        due.is("leaf(0, MIN)", x.leaf(0, Long.MIN_VALUE), 0);
        due.is("leaf(-1, 0)", x.leaf(-1, 0), -1);
        due.is("leaf(3, 0)", x.leaf(3, 0), -1);
        due.is("leaf(MAX, 0)", x.leaf(Integer.MAX_VALUE, 0), -1);
        due.is("leaf(MIN, 0)", x.leaf(Integer.MIN_VALUE, 0), -1);
        due.is("leaf(0, MAX)", x.leaf(0, Long.MAX_VALUE), 1);
        int next = 2;
        for (int kind = 1; kind <= 2; kind++) {
            due.is("leaf(kind, 0)", x.leaf(kind, 0), next);
            due.is("leaf(kind, 15)", x.leaf(kind, 15), next + 1);
            next += 2;
            due.is("leaf(kind, 16)", x.leaf(kind, 16), -1);
            due.is("leaf(kind, -1)", x.leaf(kind, -1), -1);
            due.is("leaf(kind, 2^32)", x.leaf(kind, 1L << 32), -1);
        }
    }

    private static void nodes() {
        StepRows x = new StepRows();
        int e = x.leaf(0, 0);
        int s = x.node(12, e, 0, 0);
        int next = 2;
        for (int what = 0; what <= 5; what++) {
            due.is("node(" + what + ", e, e)", x.node(what, e, e, 9), next++);
            due.is("node(" + what + ", s, e)", x.node(what, s, e, 9), -1);
            due.is("node(" + what + ", e, s)", x.node(what, e, s, 9), -1);
            due.is("node(" + what + ", e, NONE)", x.node(what, e, -1, 9), -1);
            due.is("node(" + what + ", e, next)", x.node(what, e, next, 9), -1);
        }
        due.is("node(6, e)", x.node(6, e, -9, 99), next++);
        due.is("node(6, s)", x.node(6, s, e, e), -1);
        for (int what : new int[] {-1, 7, 8, 9, 22, 30, 31, 32, 40, Integer.MAX_VALUE, Integer.MIN_VALUE}) {
            due.is("node(" + what + ")", x.node(what, e, e, e), -1);
            due.is("node(" + what + ")", x.node(what, s, s, s), -1);
        }
        numbered(x, e, s, next);
    }

    /** For each statement: what it takes, then the same with one part wrong. */
    private static void numbered(StepRows x, int e, int s, int first) {
        int next = first;
        int[][] good = {
            {10, 0, e, 0}, {10, 7, e, 0}, {11, 0, e, 0}, {11, 15, e, 0}, {12, e, 0, 0}, {13, 0, e, e},
            {13, 7, e, e}, {14, s, s, 0}, {15, e, s, s}, {15, e, s, -1}, {16, e, s, s}, {17, e, s, 0},
            {18, s, s, 0}, {19, 0, 0, 0}, {19, 7, 0, 0}, {20, 0, s, 0}, {20, 7, s, 0}, {21, s, 0, 0},
        };
        for (int[] g : good) {
            due.is("node(" + g[0] + ")", x.node(g[0], g[1], g[2], g[3]), next++);
        }
        int[][] bad = {
            {10, 8, e, 0}, {10, -1, e, 0}, {10, 0, s, 0}, {10, 0, -1, 0}, {11, 16, e, 0}, {11, -1, e, 0},
            {11, 0, s, 0}, {12, s, 0, 0}, {12, -1, 0, 0}, {12, 999, 0, 0}, {13, 8, e, e}, {13, -1, e, e},
            {13, 0, s, e}, {13, 0, e, s}, {13, 0, e, -1}, {14, e, s, 0}, {14, s, e, 0}, {14, s, -1, 0},
            {15, s, s, s}, {15, e, e, s}, {15, e, s, e}, {15, e, -1, s}, {15, e, s, -2}, {15, e, s, 9999},
            {16, s, s, s}, {16, e, e, s}, {16, e, s, e}, {16, e, s, -1}, {16, e, -1, s}, {17, s, s, 0},
            {17, e, e, 0}, {17, e, -1, 0}, {18, e, s, 0}, {18, s, e, 0}, {18, s, -1, 0}, {19, 8, 0, 0},
            {19, -1, 0, 0}, {20, 8, s, 0}, {20, -1, s, 0}, {20, 0, e, 0}, {20, 0, -1, 0}, {21, e, 0, 0},
            {21, -1, 0, 0}, {21, next, 0, 0}, {21, Integer.MAX_VALUE, 0, 0}, {21, Integer.MIN_VALUE, 0, 0},
        };
        for (int[] b : bad) {
            due.is("node(" + b[0] + ", " + b[1] + ", " + b[2] + ", " + b[3] + ")",
                x.node(b[0], b[1], b[2], b[3]), -1);
        }
        due.is("refused nodes take no number", x.leaf(0, 0), next);
    }

    private static void partsNotNamed() {
        StepRows x = new StepRows();
        int e = x.leaf(0, 2);
        int lo = Integer.MIN_VALUE;
        int hi = Integer.MAX_VALUE;
        due.is("WAIT", x.node(12, e, lo, hi), 1);
        due.is("CALL", x.node(19, 3, hi, lo), 2);
        due.is("PHASE", x.node(21, 1, lo, lo), 3);
        due.is("ROW", x.node(14, 1, 3, hi), 4);
        due.is("TABLE", x.node(6, e, hi, hi), 5);
        due.is("a + b", x.node(0, e, e, lo), 6);
        due.is("WAIT, others told", x.node(12, e, 5, 6), 7);
        due.is("make", x.make(1), 0);
        due.is("make", x.make(7), 1);
        due.is("they are no part of the program", x.shared(0, 1), true);
    }

    private static void full() {
        StepRows x = new StepRows();
        for (int k = 0; k < 299; k++) {
            due.is("leaf " + k, x.leaf(0, k), k);
        }
        due.is("node 299", x.node(12, 0, 0, 0), 299);
        due.is("leaf 300", x.leaf(0, 0), -2);
        due.is("node 300", x.node(12, 0, 0, 0), -2);
        due.is("refused before it is full: leaf", x.leaf(4, 0), -1);
        due.is("refused before it is full: node", x.node(12, 300, 0, 0), -1);
        due.is("make(299)", x.make(299), 0);
        due.is("make(300)", x.make(300), -1);
    }

    private static void table() {
        StepRows x = new StepRows();
        for (int i = 0; i < 10; i++) {
            due.is("table(" + i + ")", x.table(i), TABLE[i]);
        }
        for (int i : new int[] {-1, 10, Integer.MAX_VALUE, Integer.MIN_VALUE}) {
            String thrown = "nothing";
            try {
                x.table(i);
            } catch (RuntimeException e) {
                thrown = e.getClass().getSimpleName();
            }
            due.is("table(" + i + ") throws " + thrown, thrown.equals("IndexOutOfBoundsException"), true);
        }
    }
}
