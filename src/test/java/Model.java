import java.util.ArrayList;
import java.util.Arrays;
import java.util.List;

/**
 * The document once more, written as plainly as it can be and in another way than the class:
 * trees of objects, recursion, exceptions for faults. The class is held against it.
 */
final class Model {
    static final int NONE = -1;
    static final int FULL = -2;
    static final int[] TABLE = {1, 2, 3, 5, 8, 13, 21, 34, 55, 89};

    /** e expression, s statement, n statement or NONE, 8 and 16 numbers below that, - not named */
    private static final String[][] SHAPES = new String[22][];

    static {
        for (int what = 0; what <= 5; what++) {
            SHAPES[what] = new String[] {"e", "e", "-"};
        }
        SHAPES[6] = new String[] {"e", "-", "-"};
        SHAPES[10] = new String[] {"8", "e", "-"};
        SHAPES[11] = new String[] {"16", "e", "-"};
        SHAPES[12] = new String[] {"e", "-", "-"};
        SHAPES[13] = new String[] {"8", "e", "e"};
        SHAPES[14] = new String[] {"s", "s", "-"};
        SHAPES[15] = new String[] {"e", "s", "n"};
        SHAPES[16] = new String[] {"e", "s", "s"};
        SHAPES[17] = new String[] {"e", "s", "-"};
        SHAPES[18] = new String[] {"s", "s", "-"};
        SHAPES[19] = new String[] {"8", "-", "-"};
        SHAPES[20] = new String[] {"8", "s", "-"};
        SHAPES[21] = new String[] {"s", "-", "-"};
    }

    private static final class Told {
        boolean leaf;
        int what;
        long v;
        int[] parts = new int[3];
    }

    /** A place of a program: parts that are not there are null. */
    private static final class Tree {
        boolean leaf;
        int what;
        long v;
        int number;
        Tree a;
        Tree b;
        Tree c;
        int place;
    }

    private static final class Program {
        Tree root;
        String text;
        int first;
        List<Tree> items = new ArrayList<>();
    }

    private static final class TooLarge extends RuntimeException {
        private static final long serialVersionUID = 1;
    }

    private static final class Fault extends RuntimeException {
        private static final long serialVersionUID = 1;
        final int kind;
        final int place;

        Fault(int kind, int place) {
            this.kind = kind;
            this.place = place;
        }
    }

    private final List<Told> tolds = new ArrayList<>();
    private final List<Program> programs = new ArrayList<>();
    private final List<Run> saves = new ArrayList<>();
    private final long[] signals = new long[16];
    private Run run;
    private int places;

    /** How often each kind of thing happened, so that a test can see that it met them all. */
    static final int[] faults = new int[5];
    static int swaps;
    static int gone;
    static int mostAround;
    static int mostSides;

    int leaf(int kind, long v) {
        if (kind < 0 || kind > 2 || (kind > 0 && (v < 0 || v > 15))) {
            return NONE;
        }
        Told t = new Told();
        t.leaf = true;
        t.what = kind;
        t.v = v;
        return keep(t);
    }

    int node(int what, int a, int b, int c) {
        if (what < 0 || what > 21 || SHAPES[what] == null) {
            return NONE;
        }
        int[] parts = {a, b, c};
        for (int k = 0; k < 3; k++) {
            if (!fits(SHAPES[what][k], parts[k])) {
                return NONE;
            }
        }
        Told t = new Told();
        t.what = what;
        t.parts = parts;
        return keep(t);
    }

    private int keep(Told t) {
        if (tolds.size() == 300) {
            return FULL;
        }
        tolds.add(t);
        return tolds.size() - 1;
    }

    private boolean fits(String shape, int part) {
        switch (shape) {
            case "e":
                return part >= 0 && part < tolds.size() && isExpression(tolds.get(part));
            case "s":
                return part >= 0 && part < tolds.size() && !isExpression(tolds.get(part));
            case "n":
                return part == NONE || fits("s", part);
            case "8":
                return part >= 0 && part <= 7;
            case "16":
                return part >= 0 && part <= 15;
            default:
                return true;
        }
    }

    private boolean isExpression(Told t) {
        return t.leaf || t.what <= 6;
    }

    boolean isStatement(int k) {
        return fits("s", k);
    }

    int make(int root) {
        if (!fits("s", root)) {
            return NONE;
        }
        Program p = new Program();
        places = 0;
        try {
            p.root = grow(root);
        } catch (TooLarge e) {
            return NONE;
        }
        if (programs.size() == 20) {
            return FULL;
        }
        p.text = text(p.root);
        p.first = programs.size();
        for (int k = programs.size() - 1; k >= 0; k--) {
            if (programs.get(k).text.equals(p.text)) {
                p.first = k;
            }
        }
        flatten(p.root, p.items);
        programs.add(p);
        return programs.size() - 1;
    }

    private Tree grow(int k) {
        Told t = tolds.get(k);
        Tree tree = new Tree();
        tree.leaf = t.leaf;
        tree.what = t.what;
        tree.v = t.v;
        tree.place = places++;
        if (places > 500) {
            throw new TooLarge();
        }
        if (!t.leaf) {
            Tree[] parts = new Tree[3];
            for (int i = 0; i < 3; i++) {
                String shape = SHAPES[t.what][i];
                if (shape.equals("e") || shape.equals("s") || (shape.equals("n") && t.parts[i] != NONE)) {
                    parts[i] = grow(t.parts[i]);
                } else if (shape.equals("8") || shape.equals("16")) {
                    tree.number = t.parts[i];
                }
            }
            tree.a = parts[0];
            tree.b = parts[1];
            tree.c = parts[2];
        }
        return tree;
    }

    private String text(Tree t) {
        if (t == null) {
            return "_";
        }
        if (t.leaf) {
            return "leaf" + t.what + ":" + t.v;
        }
        return t.what + ":" + t.number + "(" + text(t.a) + "," + text(t.b) + "," + text(t.c) + ")";
    }

    private void flatten(Tree t, List<Tree> items) {
        if (t.what == 14) {
            flatten(t.a, items);
            flatten(t.b, items);
        } else {
            items.add(t);
        }
    }

    boolean signal(int k, long v) {
        if (k < 0 || k > 15) {
            return false;
        }
        signals[k] = v;
        return true;
    }

    private boolean isProgram(int p) {
        return p >= 0 && p < programs.size();
    }

    int start(int program) {
        if (!isProgram(program)) {
            return NONE;
        }
        run = new Run();
        run.program = programs.get(program);
        return 0;
    }

    int tick(int seconds) {
        if (seconds < 0 || seconds > 10000) {
            return NONE;
        }
        if (run == null) {
            return 3;
        }
        for (int k = 0; k < seconds && run.state == 1; k++) {
            run.doSecond();
        }
        return run.state;
    }

    long output(int k) {
        return run == null || k < 0 || k > 7 ? 0 : run.outputs[k];
    }

    long value(int k) {
        return run == null || k < 0 || k > 15 ? 0 : run.values[k];
    }

    int step(int branch) {
        if (run == null || run.state != 1 || run.current == null) {
            return NONE;
        }
        List<Integer> list = new ArrayList<>();
        run.current.standing(list);
        return branch < 0 || branch >= list.size() ? NONE : list.get(branch);
    }

    int alarm(int k, int what) {
        if (run == null || run.alarm == null || k != 0 || what < 0 || what > 2) {
            return NONE;
        }
        return run.alarm[what];
    }

    int save() {
        if (run == null) {
            return NONE;
        }
        if (saves.size() == 8) {
            return FULL;
        }
        saves.add(run.copy());
        return saves.size() - 1;
    }

    boolean back(int k) {
        if (k < 0 || k >= saves.size()) {
            return false;
        }
        run = saves.get(k).copy();
        return true;
    }

    int swap(int program) {
        if (!isProgram(program) || run == null || run.state != 1) {
            return 1;
        }
        run.waiting = programs.get(program);
        return 0;
    }

    boolean shared(int a, int b) {
        return isProgram(a) && isProgram(b) && programs.get(a).first == programs.get(b).first;
    }

    int told(int what) {
        switch (what) {
            case 0:
                return run == null ? 0 : run.second;
            case 1:
                return run == null ? 0 : run.phases;
            case 2:
                return run == null ? NONE : run.program.first;
            case 3:
                return run == null || run.waiting == null ? 0 : 1;
            default:
                return NONE;
        }
    }

    private final class Run {
        Program program;
        Program waiting;
        int item;
        Act current;
        int second;
        int phases;
        int state = 1;
        int begun;
        int sides;
        int[] alarm;
        long[] values = new long[16];
        long[] outputs = new long[8];
        Tree[] names = new Tree[8];

        Run copy() {
            Run r = new Run();
            r.program = program;
            r.waiting = waiting;
            r.item = item;
            r.current = current == null ? null : current.copy(r);
            r.second = second;
            r.phases = phases;
            r.state = state;
            r.sides = sides;
            r.alarm = alarm == null ? null : alarm.clone();
            r.values = values.clone();
            r.outputs = outputs.clone();
            r.names = names.clone();
            return r;
        }

        void doSecond() {
            begun = 0;
            try {
                if (current != null) {
                    current.limits();
                }
                branches();
            } catch (Fault f) {
                faults[f.kind]++;
                alarm = new int[] {second, f.kind, f.place};
                state = 2;
            }
            second++;
        }

        void branches() {
            boolean over = current != null && current.goOn();
            if (current != null && !over) {
                return;
            }
            if (current != null) {
                current = null;
                next();
            }
            while (state == 1) {
                if (item >= program.items.size()) {
                    state = 0;
                    return;
                }
                current = begin(program.items.get(item), 0);
                if (current != null) {
                    return;
                }
                next();
            }
        }

        /** The item is over: the next one, of the same program or of another. */
        void next() {
            boolean phase = program.items.get(item).what == 21;
            item++;
            if (!phase) {
                return;
            }
            phases++;
            if (waiting == null) {
                return;
            }
            swaps++;
            program = waiting;
            waiting = null;
            Arrays.fill(names, null);
            int left = phases;
            item = 0;
            while (left > 0 && item < program.items.size()) {
                if (program.items.get(item).what == 21) {
                    left--;
                }
                item++;
            }
            if (left > 0) {
                state = 0;
            }
        }

        /** Null when it is over at once. */
        Act begin(Tree t, int around) {
            if (t.what != 14) {
                begun++;
                if (begun > 500) {
                    throw new Fault(4, t.place);
                }
            }
            Act act;
            switch (t.what) {
                case 10: {
                    long v = eval(t.b);
                    outputs[t.number] = v;
                    return null;
                }
                case 11: {
                    long v = eval(t.b);
                    values[t.number] = v;
                    return null;
                }
                case 12:
                    act = new Wait(this, t, around);
                    break;
                case 13:
                    act = new Ramp(this, t, around);
                    break;
                case 14:
                    act = new Row(this, t, around);
                    break;
                case 15: {
                    Tree chosen = eval(t.a) != 0 ? t.b : t.c;
                    return chosen == null ? null : begin(chosen, around);
                }
                case 16:
                    act = new Limit(this, t, around);
                    break;
                case 17:
                    act = new Repeat(this, t, around);
                    break;
                case 18:
                    act = new Side(this, t, around);
                    break;
                case 19: {
                    Tree meaning = names[t.number];
                    if (meaning == null) {
                        throw new Fault(3, t.place);
                    }
                    comeAround(t, around);
                    return begin(meaning, around + 1);
                }
                case 20:
                    names[t.number] = t.b;
                    return null;
                default:
                    return begin(t.a, around);
            }
            return act.beginAct() ? null : act;
        }

        void comeAround(Tree t, int around) {
            if (around + 1 > 60) {
                throw new Fault(4, t.place);
            }
            mostAround = Math.max(mostAround, around + 1);
        }

        long eval(Tree t) {
            if (t.leaf) {
                return t.what == 0 ? t.v : t.what == 1 ? signals[(int) t.v] : values[(int) t.v];
            }
            long a = eval(t.a);
            if (t.what == 6) {
                if (a < 0 || a > 9) {
                    throw new Fault(2, t.place);
                }
                return TABLE[(int) a];
            }
            long b = eval(t.b);
            switch (t.what) {
                case 0:
                    return a + b;
                case 1:
                    return a - b;
                case 2:
                    return a * b;
                case 3:
                    if (b == 0) {
                        throw new Fault(1, t.place);
                    }
                    return a / b;
                case 4:
                    return a < b ? 1 : 0;
                default:
                    return a == b ? 1 : 0;
            }
        }
    }

    /** A statement that has begun and is not over. */
    private abstract static class Act {
        final Run run;
        final Tree t;
        final int around;
        Act inner;

        Act(Run run, Tree t, int around) {
            this.run = run;
            this.t = t;
            this.around = around;
        }

        abstract boolean beginAct();

        abstract boolean goOn();

        abstract Act fresh(Run r);

        void limits() {
            if (inner != null) {
                inner.limits();
            }
        }

        int sides() {
            return inner == null ? 0 : inner.sides();
        }

        void standing(List<Integer> list) {
            if (inner != null) {
                inner.standing(list);
            }
        }

        Act copy(Run r) {
            Act act = fresh(r);
            act.inner = inner == null ? null : inner.copy(r);
            return act;
        }
    }

    private static final class Wait extends Act {
        long left;

        Wait(Run run, Tree t, int around) {
            super(run, t, around);
        }

        boolean beginAct() {
            left = run.eval(t.a);
            return left < 1;
        }

        boolean goOn() {
            left--;
            return left == 0;
        }

        void standing(List<Integer> list) {
            list.add(t.place);
        }

        Act fresh(Run r) {
            Wait w = new Wait(r, t, around);
            w.left = left;
            return w;
        }
    }

    private static final class Ramp extends Act {
        long v;
        long n;
        long w;
        long k;

        Ramp(Run run, Tree t, int around) {
            super(run, t, around);
        }

        boolean beginAct() {
            v = run.eval(t.b);
            n = run.eval(t.c);
            w = run.outputs[t.number];
            if (n < 1) {
                run.outputs[t.number] = v;
                return true;
            }
            return false;
        }

        boolean goOn() {
            k++;
            run.outputs[t.number] = k == n ? v : w + (v - w) * k / n;
            return k == n;
        }

        void standing(List<Integer> list) {
            list.add(t.place);
        }

        Act fresh(Run r) {
            Ramp x = new Ramp(r, t, around);
            x.v = v;
            x.n = n;
            x.w = w;
            x.k = k;
            return x;
        }
    }

    private static final class Row extends Act {
        boolean second;

        Row(Run run, Tree t, int around) {
            super(run, t, around);
        }

        boolean beginAct() {
            inner = run.begin(t.a, around);
            return inner == null && beginSecond();
        }

        private boolean beginSecond() {
            second = true;
            inner = run.begin(t.b, around);
            return inner == null;
        }

        boolean goOn() {
            if (!inner.goOn()) {
                return false;
            }
            return second || beginSecond();
        }

        Act fresh(Run r) {
            Row x = new Row(r, t, around);
            x.second = second;
            return x;
        }
    }

    private static final class Limit extends Act {
        boolean doesC;

        Limit(Run run, Tree t, int around) {
            super(run, t, around);
        }

        boolean beginAct() {
            if (run.eval(t.a) == 0) {
                return beginC();
            }
            run.comeAround(t, around);
            inner = run.begin(t.b, around + 1);
            return inner == null;
        }

        private boolean beginC() {
            doesC = true;
            inner = run.begin(t.c, around);
            return inner == null;
        }

        void limits() {
            if (doesC) {
                inner.limits();
            } else if (run.eval(t.a) == 0) {
                gone++;
                run.sides -= inner.sides();
                inner = null;
            } else {
                inner.limits();
            }
        }

        boolean goOn() {
            return inner == null ? beginC() : inner.goOn();
        }

        Act fresh(Run r) {
            Limit x = new Limit(r, t, around);
            x.doesC = doesC;
            return x;
        }
    }

    private static final class Repeat extends Act {
        long left;

        Repeat(Run run, Tree t, int around) {
            super(run, t, around);
        }

        boolean beginAct() {
            left = run.eval(t.a);
            if (left <= 0) {
                return true;
            }
            run.comeAround(t, around);
            return turns();
        }

        private boolean turns() {
            while (left > 0) {
                inner = run.begin(t.b, around + 1);
                if (inner != null) {
                    return false;
                }
                left--;
            }
            return true;
        }

        boolean goOn() {
            if (!inner.goOn()) {
                return false;
            }
            left--;
            return turns();
        }

        Act fresh(Run r) {
            Repeat x = new Repeat(r, t, around);
            x.left = left;
            return x;
        }
    }

    private static final class Side extends Act {
        Act other;

        Side(Run run, Tree t, int around) {
            super(run, t, around);
        }

        boolean beginAct() {
            run.comeAround(t, around);
            run.sides++;
            if (1 + 2 * run.sides > 100) {
                throw new Fault(4, t.place);
            }
            mostSides = Math.max(mostSides, run.sides);
            inner = run.begin(t.a, around + 1);
            other = run.begin(t.b, around + 1);
            return over();
        }

        private boolean over() {
            if (inner != null || other != null) {
                return false;
            }
            run.sides--;
            return true;
        }

        boolean goOn() {
            if (inner != null && inner.goOn()) {
                inner = null;
            }
            if (other != null && other.goOn()) {
                other = null;
            }
            return over();
        }

        void limits() {
            super.limits();
            if (other != null) {
                other.limits();
            }
        }

        int sides() {
            return 1 + super.sides() + (other == null ? 0 : other.sides());
        }

        void standing(List<Integer> list) {
            super.standing(list);
            if (other != null) {
                other.standing(list);
            }
        }

        Act fresh(Run r) {
            Side x = new Side(r, t, around);
            x.other = other == null ? null : other.copy(r);
            return x;
        }
    }
}
