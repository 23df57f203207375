/** Tells leaves and nodes by name, so that the tests read like the programs that they mean. */
final class Teller {
    static final int NONE = StepRows.NONE;
    final StepRows x;
    /** Calls of the object: the document promises nothing behind the 512th. */
    int calls;

    Teller(StepRows x) {
        this.x = x;
    }

    private int sure(int number) {
        calls++;
        if (number < 0) {
            throw new IllegalStateException("a test told what was refused: " + number);
        }
        return number;
    }

    int num(long v) {
        return sure(x.leaf(0, v));
    }

    int sig(int k) {
        return sure(x.leaf(1, k));
    }

    int val(int k) {
        return sure(x.leaf(2, k));
    }

    int op(int what, int a, int b) {
        return sure(x.node(what, a, b, -77));
    }

    int add(int a, int b) {
        return op(0, a, b);
    }

    int sub(int a, int b) {
        return op(1, a, b);
    }

    int div(int a, int b) {
        return op(3, a, b);
    }

    int times(int a, int b) {
        return op(2, a, b);
    }

    int less(int a, int b) {
        return op(4, a, b);
    }

    int tab(int a) {
        return sure(x.node(6, a, -77, -77));
    }

    int out(int k, int e) {
        return sure(x.node(10, k, e, -77));
    }

    int let(int k, int e) {
        return sure(x.node(11, k, e, -77));
    }

    /** value k becomes value k + 1 */
    int count(int k) {
        return let(k, add(val(k), num(1)));
    }

    /** value 0 gets one more digit, so that it tells in which order statements were done */
    int mark(int digit) {
        return let(0, add(times(val(0), num(10)), num(digit)));
    }

    int await(int e) {
        return sure(x.node(12, e, -77, -77));
    }

    int pause(long seconds) {
        return await(num(seconds));
    }

    int ramp(int k, int to, int in) {
        return sure(x.node(13, k, to, in));
    }

    int row(int... parts) {
        int all = parts[parts.length - 1];
        for (int k = parts.length - 2; k >= 0; k--) {
            all = sure(x.node(14, parts[k], all, -77));
        }
        return all;
    }

    int when(int e, int then, int otherwise) {
        return sure(x.node(15, e, then, otherwise));
    }

    int limit(int e, int b, int c) {
        return sure(x.node(16, e, b, c));
    }

    int repeat(int e, int b) {
        return sure(x.node(17, e, b, -77));
    }

    int side(int a, int b) {
        return sure(x.node(18, a, b, -77));
    }

    int call(int name) {
        return sure(x.node(19, name, -77, -77));
    }

    int bind(int name, int b) {
        return sure(x.node(20, name, b, -77));
    }

    int phase(int a) {
        return sure(x.node(21, a, -77, -77));
    }

    int make(int root) {
        return sure(x.make(root));
    }

    /** So many REPEATs of 1 around a statement: it comes to stand at place 2 * times. */
    int repeats(int times, int inner) {
        int all = inner;
        int one = num(1);
        for (int k = 0; k < times; k++) {
            all = repeat(one, all);
        }
        return all;
    }

    /** So many SIDEs in the right branch of one another, each with the same left one, and at last the inner one. */
    int sides(int times, int left, int inner) {
        int all = inner;
        for (int k = 0; k < times; k++) {
            all = side(left, all);
        }
        return all;
    }

    /** Makes the program and starts a run of it. */
    void run(int root) {
        calls++;
        if (x.start(make(root)) != 0) {
            throw new IllegalStateException("a program that was made does not start");
        }
    }
}
