import java.util.Random;

/** Random runs of calls, each answer held against the model's; no object is asked more than 512 of them. */
public final class ModelTest {
    private static final int CALLS = 512;
    /** Kept for a look at all of the run at the end. */
    private static final int LAST_LOOK = 60;

    private static final class Enough extends RuntimeException {
        private static final long serialVersionUID = 1;
    }

    private final Random random;
    private final StepRows x = new StepRows();
    private final Model m = new Model();
    private final Due due;
    private final String name;
    private int most = CALLS - LAST_LOOK;
    private int calls;
    private int told;

    private ModelTest(long seed, Due due) {
        random = new Random(seed);
        name = "seed " + seed + " call ";
        this.due = due;
    }

    public static void main(String[] args) {
        int runs = args.length > 0 ? Integer.parseInt(args[0]) : 30000;
        long first = args.length > 1 ? Long.parseLong(args[1]) : 1;
        Due due = new Due("ModelTest");
        for (long seed = first; seed < first + runs && due.wrong() == 0; seed++) {
            new ModelTest(seed, due).go();
        }
        for (int kind = 1; kind <= 4; kind++) {
            due.is("fault " + kind + " was met", Model.faults[kind] > 0, true);
        }
        due.is("swaps were met", Model.swaps > 0, true);
        due.is("limits that ended were met", Model.gone > 0, true);
        due.is("most around", Model.mostAround, 60);
        due.is("most sides", Model.mostSides, 49);
        System.out.println("faults " + Model.faults[1] + " " + Model.faults[2] + " " + Model.faults[3] + " "
            + Model.faults[4] + ", swaps " + Model.swaps + ", limits " + Model.gone);
        due.end();
    }

    private int pick(int bound) {
        return random.nextInt(bound);
    }

    private void go() {
        try {
            callUntilEnough();
        } catch (Enough e) {
            most = CALLS;
            lookAtAll();
        }
    }

    private void callUntilEnough() {
        int programs = 1 + pick(4);
        for (int k = 0; k < programs; k++) {
            make(pick(3) == 0 ? phases() : statement(2 + pick(4)));
        }
        for (int k = 0; k < 3; k++) {
            tell(k, 1 + pick(9));
        }
        start(pick(programs));
        while (due.wrong() == 0) {
            act();
        }
    }

    /** Counts a call before it is asked. */
    private void ask() {
        if (calls >= most) {
            throw new Enough();
        }
        calls++;
    }

    private void is(String call, long got, long want) {
        due.is(name + calls + " " + call, got, want);
    }

    private int leaf(int kind, long v) {
        ask();
        int want = m.leaf(kind, v);
        is("leaf(" + kind + ", " + v + ")", x.leaf(kind, v), want);
        told = Math.max(told, want + 1);
        return want;
    }

    private int node(int what, int a, int b, int c) {
        ask();
        int want = m.node(what, a, b, c);
        is("node(" + what + ", " + a + ", " + b + ", " + c + ")", x.node(what, a, b, c), want);
        told = Math.max(told, want + 1);
        return want;
    }

    private int make(int root) {
        ask();
        int want = m.make(root);
        is("make(" + root + ")", x.make(root), want);
        return want;
    }

    private void tell(int k, long v) {
        ask();
        is("signal(" + k + ", " + v + ")", x.signal(k, v) ? 1 : 0, m.signal(k, v) ? 1 : 0);
    }

    private void start(int p) {
        ask();
        is("start(" + p + ")", x.start(p), m.start(p));
    }

    private void swap(int p) {
        ask();
        is("swap(" + p + ")", x.swap(p), m.swap(p));
    }

    private void save() {
        ask();
        is("save()", x.save(), m.save());
    }

    private void back(int s) {
        ask();
        is("back(" + s + ")", x.back(s) ? 1 : 0, m.back(s) ? 1 : 0);
    }

    private void shared(int a, int b) {
        ask();
        is("shared(" + a + ", " + b + ")", x.shared(a, b) ? 1 : 0, m.shared(a, b) ? 1 : 0);
    }

    private void tick(int s) {
        ask();
        is("tick(" + s + ")", x.tick(s), m.tick(s));
    }

    private void output(int k) {
        ask();
        is("output(" + k + ")", x.output(k), m.output(k));
    }

    private void value(int k) {
        ask();
        is("value(" + k + ")", x.value(k), m.value(k));
    }

    private void step(int k) {
        ask();
        is("step(" + k + ")", x.step(k), m.step(k));
    }

    private void tells(int what) {
        ask();
        is("told(" + what + ")", x.told(what), m.told(what));
    }

    private void alarm(int k, int what) {
        ask();
        is("alarm(" + k + ", " + what + ")", x.alarm(k, what), m.alarm(k, what));
    }

    private void table(int i) {
        ask();
        is("table(" + i + ")", x.table(i), Model.TABLE[i]);
    }

    /** Some of what can be asked of a run: all of it after each tick would leave few calls for the run. */
    private void look() {
        for (int k = pick(4); k >= 0; k--) {
            switch (pick(6)) {
                case 0:
                    output(pick(8) == 0 ? pick(12) - 2 : pick(3));
                    break;
                case 1:
                    value(pick(8) == 0 ? pick(20) - 2 : pick(3));
                    break;
                case 2:
                    step(pick(8) == 0 ? pick(56) - 2 : pick(3));
                    break;
                case 3:
                    tells(pick(8) == 0 ? pick(7) - 1 : pick(4));
                    break;
                case 4:
                    alarm(pick(8) == 0 ? pick(4) - 1 : 0, pick(8) == 0 ? pick(6) - 1 : pick(3));
                    break;
                default:
                    step(pick(2));
                    break;
            }
        }
    }

    private void lookAtAll() {
        for (int k = -1; k <= 8; k++) {
            output(k);
        }
        for (int k = -1; k <= 16; k++) {
            value(k);
        }
        for (int k = 0; k <= 12; k++) {
            step(k);
        }
        for (int k = -1; k <= 4; k++) {
            tells(k);
            alarm(0, k);
        }
        tick(0);
    }

    private void act() {
        if (m.tick(0) != 1 && pick(2) == 0) {
            start(pick(6) - 1);
            return;
        }
        switch (pick(16)) {
            case 0:
                start(pick(6) - 1);
                break;
            case 1:
                swap(pick(6) - 1);
                break;
            case 2:
                save();
                break;
            case 3:
                back(pick(9) - 1);
                look();
                break;
            case 4:
            case 5:
                tell(pick(4) == 0 ? pick(18) - 1 : pick(3), pick(2) == 0 ? pick(2) : number());
                break;
            case 6:
                if (told < 200 && pick(3) == 0) {
                    make(pick(2) == 0 ? phases() : statement(2 + pick(4)));
                } else {
                    strange();
                }
                break;
            case 7:
                shared(pick(6) - 1, pick(6) - 1);
                break;
            case 8:
                tick(pick(80));
                look();
                break;
            default:
                tick(1 + pick(3));
                look();
                break;
        }
    }

    /** Calls that may be refused. */
    private void strange() {
        switch (pick(5)) {
            case 0:
                leaf(pick(5) - 1, pick(20) - 2);
                break;
            case 1:
                node(pick(25) - 1, part(), part(), part());
                break;
            case 2:
                make(part());
                break;
            case 3:
                table(pick(10));
                break;
            default:
                tick(pick(2) == 0 ? -1 : 10001);
                break;
        }
    }

    private int part() {
        return pick(3) == 0 ? pick(18) - 2 : pick(Math.max(1, told) + 3) - 2;
    }

    private long number() {
        switch (pick(12)) {
            case 0:
                return random.nextLong();
            case 1:
                return Long.MIN_VALUE + pick(2);
            case 2:
                return pick(100) - 50;
            default:
                return pick(5) - 1;
        }
    }

    private int expression(int depth) {
        if (depth <= 0 || pick(3) == 0) {
            switch (pick(4)) {
                case 0:
                    return leaf(1, pick(3));
                case 1:
                    return leaf(2, pick(3));
                default:
                    return leaf(0, pick(8) == 0 ? number() : pick(4));
            }
        }
        int what = pick(6);
        if (what == 3 && pick(3) != 0) {
            what = 0;
        }
        if (pick(12) == 0) {
            return node(6, expression(depth - 1), 0, 0);
        }
        return node(what, expression(depth - 1), expression(depth - 1), pick(9));
    }

    /** Mostly a signal: those are told anew while the run goes on. */
    private int guard() {
        switch (pick(6)) {
            case 0:
                return expression(1);
            case 1:
                return node(4, leaf(2, pick(3)), leaf(0, 1 + pick(20)), 0);
            case 2:
                return node(3, leaf(0, 6), leaf(1, pick(3)), 0);
            default:
                return leaf(1, pick(3));
        }
    }

    private int seconds() {
        return pick(6) == 0 ? expression(1) : leaf(0, pick(5));
    }

    private int statement(int depth) {
        if (depth <= 0 || told > 250) {
            return simple();
        }
        switch (pick(14)) {
            case 0:
            case 1:
            case 2:
            case 3:
                return node(14, statement(depth - 1), statement(depth - 1), -5);
            case 4:
                return node(15, expression(1), statement(depth - 1), pick(2) == 0 ? -1 : statement(depth - 1));
            case 5:
            case 6:
                return node(16, guard(), lasting(statement(depth - 1)), statement(depth - 2));
            case 7:
                return node(17, pick(3) == 0 ? leaf(0, pick(70)) : expression(1), statement(depth - 1), -5);
            case 8:
            case 9:
                return node(18, statement(depth - 1), statement(depth - 1), -5);
            case 10:
            case 11:
                return bound(depth);
            case 12:
                return node(21, statement(depth - 1), -5, -5);
            default:
                return simple();
        }
    }

    /** Mostly goes on long enough for a limit around it to be looked at again. */
    private int lasting(int inner) {
        return pick(4) == 0 ? inner : node(14, inner, node(12, leaf(0, 3 + pick(30)), 0, 0), 0);
    }

    /** A name is bound, maybe to what calls it again, and called. */
    private int bound(int depth) {
        int name = pick(2);
        int body = statement(depth - 2);
        int again = node(19, name, 0, 0);
        switch (pick(12)) {
            case 0:
                body = node(14, body, again, 0);
                break;
            case 1:
                body = node(14, body, node(18, again, again, 0), 0);
                break;
            case 2:
                body = node(14, body, node(18, simple(), again, 0), 0);
                break;
            case 3:
                body = node(14, node(16, guard(), node(18, body, again, 0), simple()), simple(), 0);
                break;
            default:
                break;
        }
        int all = node(14, node(20, name, body, 0), again, 0);
        return pick(2) == 0 ? all : node(14, all, statement(depth - 1), 0);
    }

    private int simple() {
        switch (pick(9)) {
            case 0:
            case 1:
                return node(10, pick(3), expression(2), 0);
            case 2:
            case 3:
                return node(11, pick(3), expression(2), 0);
            case 4:
                return node(13, pick(3), expression(1), seconds());
            case 5:
                return pick(8) == 0 ? node(19, pick(2), 0, 0) : node(12, seconds(), 0, 0);
            default:
                return node(12, seconds(), 0, 0);
        }
    }

    /** A row of phases and of what stands between them. */
    private int phases() {
        int all = pick(2) == 0 ? node(21, statement(2), 0, 0) : statement(1);
        int more = 1 + pick(5);
        for (int k = 0; k < more; k++) {
            int part = pick(3) == 0 ? statement(2) : node(21, statement(1 + pick(3)), 0, 0);
            all = pick(2) == 0 ? node(14, all, part, 0) : node(14, part, all, 0);
        }
        return all;
    }
}
