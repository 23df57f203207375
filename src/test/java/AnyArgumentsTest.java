/**
 * LANGUAGE.md, rules 6 and 7: no call throws by itself or fails to end, for any arguments in any state.
 * What the calls answer is held against the document by the other tests; many of those here are refused,
 * and an object is asked more than its 512 calls, behind which answers are free but nothing may throw.
 */
public final class AnyArgumentsTest {
    private static final int[] INTS = {
        Integer.MIN_VALUE, Integer.MIN_VALUE + 1, -10001, -10000, -501, -500, -301, -41, -23, -16, -8, -3, -2, -1,
        0, 1, 2, 3, 4, 5, 6, 7, 8, 9, 10, 11, 12, 15, 16, 17, 18, 19, 20, 21, 22, 23, 29, 30, 31, 32, 33, 40, 41,
        59, 60, 61, 99, 100, 101, 298, 299, 300, 301, 499, 500, 501, 511, 512, 513, 9999, 10000, 10001,
        1 << 16, Integer.MAX_VALUE - 1, Integer.MAX_VALUE,
    };
    private static final long[] LONGS = {
        Long.MIN_VALUE, Long.MIN_VALUE + 1, Integer.MIN_VALUE - 1L, -16, -2, -1, 0, 1, 2, 9, 10, 15, 16, 17,
        1L << 32, (1L << 32) + 1, (1L << 32) + 15, Long.MAX_VALUE - 1, Long.MAX_VALUE,
    };
    private static final int STATES = 12;
    private static final int CALLS = 16;

    private static final Due due = new Due("AnyArgumentsTest");

    public static void main(String[] args) {
        for (int state = 0; state < STATES; state++) {
            StepRows one = inState(state);
            for (int call = 0; call < CALLS; call++) {
                askAll(inState(state), state, call);
                askAll(one, state, call);
            }
        }
        due.end();
    }

    private static StepRows inState(int state) {
        StepRows x = new StepRows();
        Teller t = new Teller(x);
        if (state == 0) {
            return x;
        }
        int wait = t.pause(2);
        int ramp = t.ramp(7, t.num(Long.MAX_VALUE), t.num(Long.MAX_VALUE));
        int body = t.limit(t.less(t.val(15), t.num(5)), t.side(t.row(t.count(15), wait), ramp), wait);
        int many = t.repeat(t.num(Long.MAX_VALUE), t.row(t.bind(7, body), t.call(7)));
        if (state == 1) {
            return x;
        }
        int program = t.make(t.row(t.phase(wait), t.phase(t.side(many, t.sides(40, wait, ramp))), t.phase(many)));
        int held = t.make(t.row(wait, t.out(0, t.tab(t.num(10)))));
        int around = t.make(t.row(t.bind(0, t.call(0)), t.call(0)));
        int endless = t.make(t.row(t.bind(0, t.row(t.count(0), t.call(0))), t.call(0)));
        int turns = t.make(t.repeat(t.num(Long.MAX_VALUE), t.count(0)));
        switch (state) {
            case 2:
                fill(x);
                break;
            case 3:
                x.start(program);
                break;
            case 4:
                x.start(program);
                x.tick(3);
                break;
            case 5:
                x.start(program);
                x.tick(9);
                x.swap(held);
                x.save();
                break;
            case 6:
                x.start(held);
                x.tick(9);
                x.save();
                break;
            case 7:
                x.start(around);
                x.tick(1);
                break;
            case 8:
                x.start(endless);
                x.tick(1);
                break;
            case 9:
                x.start(turns);
                x.tick(1);
                break;
            case 10:
                x.start(program);
                x.swap(program);
                x.tick(3);
                x.save();
                x.swap(around);
                x.save();
                x.start(held);
                x.back(1);
                break;
            default:
                x.start(program);
                x.tick(4);
                for (int k = 0; k < 8; k++) {
                    x.save();
                    x.tick(1);
                }
                fill(x);
                break;
        }
        return x;
    }

    /** As many nodes and programs as there can be. */
    private static void fill(StepRows x) {
        for (int k = 0; k < 300; k++) {
            x.node(12, x.leaf(0, k), 0, 0);
        }
        for (int k = 0; k < 300; k++) {
            x.make(k);
        }
    }

    private static void askAll(StepRows x, int state, int call) {
        String thrown = "nothing";
        try {
            askWithAll(x, call);
        } catch (RuntimeException | StackOverflowError e) {
            thrown = e.toString();
        }
        due.is("state " + state + ", call " + call + " throws " + thrown, thrown.equals("nothing"), true);
    }

    private static void askWithAll(StepRows x, int call) {
        switch (call) {
            case 0:
            case 1:
                askWithLongs(x, call);
                break;
            case 2:
                askNodes(x);
                break;
            case 3:
            case 4:
                askWithPairs(x, call);
                break;
            case 5:
                askTable(x);
                break;
            case 6:
                for (int k = 0; k < 10; k++) {
                    x.save();
                }
                break;
            default:
                for (int k : INTS) {
                    askWithOne(x, call, k);
                }
                break;
        }
    }

    private static void askWithLongs(StepRows x, int call) {
        for (int k : INTS) {
            for (long v : LONGS) {
                if (call == 0) {
                    x.leaf(k, v);
                } else {
                    x.signal(k, v);
                }
            }
        }
    }

    private static void askNodes(StepRows x) {
        for (int what : INTS) {
            for (int k = 0; k < INTS.length; k++) {
                x.node(what, INTS[k], INTS[(k + what & 63) % INTS.length], INTS[INTS.length - 1 - k]);
                x.node(what, INTS[k], 0, 0);
                x.node(what, 0, INTS[k], 0);
                x.node(what, 0, 1, INTS[k]);
                x.node(what, 0, 2, INTS[k]);
            }
        }
        for (int k = 0; k < 300; k++) {
            x.make(k);
            x.start(k);
            x.tick(3);
        }
    }

    private static void askWithPairs(StepRows x, int call) {
        for (int a : INTS) {
            for (int b : INTS) {
                if (call == 3) {
                    x.alarm(a, b);
                } else {
                    x.shared(a, b);
                }
            }
        }
    }

    private static void askTable(StepRows x) {
        for (int i : INTS) {
            String thrown = "nothing";
            try {
                x.table(i);
            } catch (RuntimeException e) {
                thrown = e.getClass().getSimpleName();
            }
            String want = i >= 0 && i <= 9 ? "nothing" : "IndexOutOfBoundsException";
            due.is("table(" + i + ") throws " + thrown, thrown.equals(want), true);
        }
    }

    private static void askWithOne(StepRows x, int call, int k) {
        switch (call) {
            case 7:
                x.make(k);
                break;
            case 8:
                x.start(k);
                x.tick(2);
                break;
            case 9:
                x.tick(k);
                break;
            case 10:
                x.output(k);
                break;
            case 11:
                x.step(k);
                break;
            case 12:
                x.back(k);
                x.tick(2);
                break;
            case 13:
                x.swap(k);
                x.tick(1);
                break;
            case 14:
                x.value(k);
                break;
            default:
                x.told(k);
                break;
        }
    }
}
