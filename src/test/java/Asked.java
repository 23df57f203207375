/** Asks one object, call by call, and holds each answer against the one that is due. */
final class Asked {
    static final int NONE = -1;
    static final int FULL = -2;
    private static final int MOST_CALLS = 512;

    /** Tells nodes and programs of the same object. */
    final Teller t;
    private final StepRows x = new StepRows();
    private final Due due;
    private int calls;

    Asked(Due due) {
        this.due = due;
        t = new Teller(x);
    }

    int calls() {
        return calls + t.calls;
    }

    private void is(String call, long got, long want) {
        calls++;
        due.is(call, got, want);
        if (calls() > MOST_CALLS) {
            due.is("calls of one object", calls(), MOST_CALLS);
        }
    }

    private void is(String call, boolean got, boolean want) {
        is(call, got ? 1 : 0, want ? 1 : 0);
    }

    int leaf(int kind, long v, int want) {
        int got = x.leaf(kind, v);
        is("leaf(" + kind + ", " + v + ")", got, want);
        return got;
    }

    int node(int what, int a, int b, int c, int want) {
        int got = x.node(what, a, b, c);
        is("node(" + what + ", " + a + ", " + b + ", " + c + ")", got, want);
        return got;
    }

    void make(int root, int want) {
        is("make(" + root + ")", x.make(root), want);
    }

    void signal(int k, long v, boolean want) {
        is("signal(" + k + ", " + v + ")", x.signal(k, v), want);
    }

    void signal(int k, long v) {
        signal(k, v, true);
    }

    void start(int program, int want) {
        is("start(" + program + ")", x.start(program), want);
    }

    void start(int program) {
        start(program, 0);
    }

    void tick(int seconds, int want) {
        is("tick(" + seconds + ")", x.tick(seconds), want);
    }

    void output(int k, long want) {
        is("output(" + k + ")", x.output(k), want);
    }

    /** All outputs, from 0 on; those that are not told are due to be 0. */
    void outputs(long... want) {
        for (int k = 0; k < 8; k++) {
            output(k, k < want.length ? want[k] : 0);
        }
    }

    /** The places at which branches stand: these, and no more. */
    void steps(int... want) {
        for (int k = 0; k < want.length; k++) {
            step(k, want[k]);
        }
        step(want.length, NONE);
    }

    void step(int branch, int want) {
        is("step(" + branch + ")", x.step(branch), want);
    }

    void alarm(int k, int what, int want) {
        is("alarm(" + k + ", " + what + ")", x.alarm(k, what), want);
    }

    /** The run is held by this fault. */
    void held(int second, int kind, int place) {
        tick(0, 2);
        alarm(0, 0, second);
        alarm(0, 1, kind);
        alarm(0, 2, place);
        told(0, second + 1);
    }

    void save(int want) {
        is("save()", x.save(), want);
    }

    void back(int saved, boolean want) {
        is("back(" + saved + ")", x.back(saved), want);
    }

    void swap(int program, int want) {
        is("swap(" + program + ")", x.swap(program), want);
    }

    void value(int name, long want) {
        is("value(" + name + ")", x.value(name), want);
    }

    /** The first values; those that are not told are not asked. */
    void values(long... want) {
        for (int k = 0; k < want.length; k++) {
            value(k, want[k]);
        }
    }

    void shared(int a, int b, boolean want) {
        is("shared(" + a + ", " + b + ")", x.shared(a, b), want);
    }

    void table(int i, int want) {
        is("table(" + i + ")", x.table(i), want);
    }

    void tableThrows(int i) {
        String thrown = "nothing";
        try {
            x.table(i);
        } catch (RuntimeException e) {
            thrown = e.getClass().getSimpleName();
        }
        is("table(" + i + ") throws " + thrown, thrown.equals("IndexOutOfBoundsException"), true);
    }

    void told(int what, int want) {
        is("told(" + what + ")", x.told(what), want);
    }

    /** A start and some of the run's seconds. */
    void runs(int program, int seconds, int want) {
        start(program);
        tick(seconds, want);
    }

    /** All that can be asked of a run, so that a test can see that a refused call left it alone. */
    String look() {
        StringBuilder all = new StringBuilder();
        all.append("tick ").append(x.tick(0)).append(" outputs");
        for (int k = 0; k < 8; k++) {
            all.append(' ').append(x.output(k));
        }
        all.append(" values");
        for (int k = 0; k < 16; k++) {
            all.append(' ').append(x.value(k));
        }
        all.append(" steps");
        for (int k = 0; k < 4; k++) {
            all.append(' ').append(x.step(k));
        }
        all.append(" told and alarm");
        for (int k = 0; k < 4; k++) {
            all.append(' ').append(x.told(k)).append(' ').append(x.alarm(0, k));
        }
        calls += 37;
        return all.toString();
    }

    void looks(String want) {
        String got = look();
        is("a look: " + got + ", due is " + want, got.equals(want), true);
    }
}
