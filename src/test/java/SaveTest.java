/** Promises 11 and 12: save, back. */
public final class SaveTest {
    private static final Due due = new Due("SaveTest");

    public static void main(String[] args) {
        refused();
        allOfARun();
        signalsStay();
        endedAndHeld();
        waitingSwaps();
        acrossPrograms();
        branchesAndLimits();
        manyFrames();
        due.end();
    }

    private static void refused() {
        StepRows x = new StepRows();
        Teller t = new Teller(x);
        due.is("save() without a run", x.save(), -1);
        t.run(t.pause(5));
        for (int k = 0; k < 8; k++) {
            due.is("back before it is saved", x.back(k), false);
            due.is("save " + k, x.save(), k);
        }
        due.is("the ninth", x.save(), -2);
        for (int k : new int[] {-1, 8, Integer.MAX_VALUE, Integer.MIN_VALUE}) {
            due.is("back(" + k + ")", x.back(k), false);
        }
        x.tick(3);
        due.is("back(8)", x.back(8), false);
        due.is("a refused back changes nothing", x.told(0), 3);
        due.is("back(7)", x.back(7), true);
        due.is("told(0)", x.told(0), 0);
    }

    /** Saved at each second of a run with all kinds of statements, put back, and the rest is the same. */
    private static void allOfARun() {
        for (int from = 0; from < 20; from++) {
            savedAt(from);
        }
    }

    private static void savedAt(int from) {
        StepRows x = new StepRows();
        Teller t = new Teller(x);
        int body = t.row(t.count(0), t.ramp(1, t.add(t.val(0), t.num(20)), t.num(3)));
        int left = t.repeat(t.num(3), t.row(t.call(1), t.phase(t.pause(1))));
        int right = t.limit(t.less(t.val(0), t.num(2)), t.pause(50), t.row(t.out(2, t.num(9)), t.pause(4)));
        t.run(t.row(t.bind(1, body), t.phase(t.side(left, right)), t.bind(1, t.count(2)), t.pause(1), t.call(1)));
        x.tick(from);
        due.is("save", x.save(), 0);
        String saved = look(x);
        String[] want = new String[20];
        for (int second = from; second < 20; second++) {
            x.tick(1);
            want[second] = look(x);
        }
        due.is("it has ended", x.tick(0), 0);
        due.is("back", x.back(0), true);
        due.is("told(0)", x.told(0), Math.min(from, 14));
        due.is("as it was saved at " + from, look(x).equals(saved), true);
        for (int second = from; second < 20; second++) {
            x.tick(1);
            due.is("from " + from + " second " + second, look(x).equals(want[second]), true);
        }
    }

    /** Only what the program of savedAt changes: an object has 512 calls in all. */
    private static String look(StepRows x) {
        StringBuilder all = new StringBuilder();
        all.append(x.tick(0)).append(' ').append(x.told(0)).append(' ').append(x.told(1));
        for (int k = 1; k <= 2; k++) {
            all.append(' ').append(x.output(k)).append(' ').append(x.step(k - 1));
        }
        return all.append(' ').append(x.value(0)).append(' ').append(x.value(2)).toString();
    }

    private static void signalsStay() {
        StepRows x = new StepRows();
        Teller t = new Teller(x);
        x.signal(0, 1);
        t.run(t.repeat(t.num(99), t.row(t.out(0, t.sig(0)), t.pause(1))));
        x.tick(1);
        x.save();
        x.signal(0, 2);
        int later = t.make(t.pause(3));
        due.is("back(0)", x.back(0), true);
        due.is("output(0)", x.output(0), 1);
        x.tick(1);
        due.is("the signal is as told", x.output(0), 2);
        due.is("programs stay", x.start(later), 0);
        due.is("told(2)", x.told(2), later);
    }

    private static void endedAndHeld() {
        StepRows x = new StepRows();
        Teller t = new Teller(x);
        t.run(t.out(0, t.num(4)));
        x.tick(1);
        due.is("an ended run", x.save(), 0);
        t.run(t.row(t.pause(2), t.out(0, t.tab(t.num(77)))));
        due.is("a run that has not begun its second 0", x.save(), 1);
        x.tick(9);
        due.is("a held run", x.save(), 2);
        due.is("back(0)", x.back(0), true);
        due.is("tick(1)", x.tick(1), 0);
        due.is("output(0)", x.output(0), 4);
        due.is("no alarm", x.alarm(0, 0), -1);
        due.is("back(2)", x.back(2), true);
        due.is("tick(1)", x.tick(1), 2);
        due.is("alarm(0, 0)", x.alarm(0, 0), 2);
        due.is("alarm(0, 1)", x.alarm(0, 1), 2);
        due.is("alarm(0, 2)", x.alarm(0, 2), 4);
        due.is("back(1)", x.back(1), true);
        due.is("no alarm", x.alarm(0, 0), -1);
        due.is("step(0)", x.step(0), -1);
        due.is("tick(1)", x.tick(1), 1);
        due.is("step(0)", x.step(0), 1);
    }

    private static void waitingSwaps() {
        StepRows x = new StepRows();
        Teller t = new Teller(x);
        int a = t.make(t.row(t.phase(t.pause(2)), t.count(0)));
        int b = t.make(t.row(t.phase(t.pause(2)), t.count(1)));
        x.start(a);
        due.is("nothing waits", x.save(), 0);
        x.swap(b);
        due.is("a swap waits", x.save(), 1);
        due.is("tick(3)", x.tick(3), 0);
        due.is("value(1)", x.value(1), 1);
        due.is("told(3)", x.told(3), 0);
        x.back(1);
        due.is("it waits again", x.told(3), 1);
        due.is("told(2)", x.told(2), a);
        x.back(0);
        due.is("it waits no more", x.told(3), 0);
        due.is("tick(3)", x.tick(3), 0);
        due.is("value(0)", x.value(0), 1);
        x.back(1);
        due.is("tick(3)", x.tick(3), 0);
        due.is("value(1)", x.value(1), 1);
        due.is("told(2)", x.told(2), b);
        due.is("told(1)", x.told(1), 1);
    }

    private static void acrossPrograms() {
        StepRows x = new StepRows();
        Teller t = new Teller(x);
        int a = t.make(t.row(t.bind(3, t.count(0)), t.pause(1), t.call(3)));
        int b = t.make(t.row(t.count(5), t.pause(9)));
        x.start(a);
        x.tick(1);
        x.save();
        x.start(b);
        x.tick(4);
        due.is("value(5)", x.value(5), 1);
        due.is("back(0)", x.back(0), true);
        due.is("told(2)", x.told(2), a);
        due.is("told(0)", x.told(0), 1);
        due.is("value(5)", x.value(5), 0);
        due.is("the name means what it meant", x.tick(1), 0);
        due.is("value(0)", x.value(0), 1);
    }

    private static void branchesAndLimits() {
        StepRows x = new StepRows();
        Teller t = new Teller(x);
        int wait = t.pause(4);
        x.signal(0, 1);
        t.run(t.side(t.limit(t.sig(0), t.side(wait, wait), t.side(wait, t.side(wait, wait))), wait));
        x.tick(1);
        x.save();
        x.signal(0, 0);
        x.tick(1);
        due.is("four stand", x.step(3) >= 0 && x.step(4) < 0, true);
        x.save();
        x.back(0);
        due.is("three stand", x.step(2) >= 0 && x.step(3) < 0, true);
        x.signal(0, 1);
        x.tick(2);
        due.is("still", x.step(2) >= 0 && x.step(3) < 0, true);
        x.back(1);
        due.is("four stand", x.step(3) >= 0 && x.step(4) < 0, true);
        due.is("tick(3)", x.tick(3), 1);
        due.is("three stand", x.step(2) >= 0 && x.step(3) < 0, true);
        due.is("tick(1)", x.tick(1), 0);
    }

    /** Nearly as many frames as there can be: 49 SIDEs, and 60 around one another in the deepest branches. */
    private static void manyFrames() {
        StepRows x = new StepRows();
        Teller t = new Teller(x);
        int again = t.row(t.pause(1), t.when(t.less(t.val(0), t.num(53)), t.call(0), t.pause(7)));
        int leaf = t.call(0);
        int two = t.side(leaf, leaf);
        int four = t.side(two, two);
        int eight = t.side(four, four);
        int sixteen = t.side(eight, eight);
        int forty = t.side(t.side(sixteen, sixteen), eight);
        int all = t.side(forty, t.side(eight, leaf));
        int clock = t.repeat(t.num(99), t.row(t.count(0), t.pause(1)));
        t.run(t.row(t.bind(0, again), t.side(clock, all)));
        due.is("tick(40)", x.tick(40), 1);
        due.is("save", x.save(), 0);
        due.is("tick(14)", x.tick(14), 1);
        due.is("save", x.save(), 1);
        t.run(t.pause(1));
        x.tick(2);
        due.is("back(1)", x.back(1), true);
        due.is("tick(4)", x.tick(4), 1);
        int standing = 0;
        while (x.step(standing) >= 0) {
            standing++;
        }
        due.is("those that stand", standing, 50);
        due.is("tick(50)", x.tick(50), 0);
        long told = x.told(0);
        due.is("back(0)", x.back(0), true);
        due.is("tick(99)", x.tick(99), 0);
        due.is("told(0)", x.told(0), told);
    }
}
