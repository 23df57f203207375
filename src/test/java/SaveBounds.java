/** Promises 11 to 17, runs that are saved and swapped, and what else can be asked: a test for each sentence. */
final class SaveBounds {
    private static final int NONE = Asked.NONE;
    private static final int FULL = Asked.FULL;
    private static final int LOW = Integer.MIN_VALUE;
    private static final int HIGH = Integer.MAX_VALUE;

    private final Sentences s;

    SaveBounds(Sentences s) {
        this.s = s;
    }

    void all() {
        savedAsItIs();
        savedWithASwap();
        savedNumber();
        savedWithoutARun();
        eightSaved();
        becomesWhatWasSaved();
        becomesAsDeep();
        programsStay();
        swapWaitsIfOneDid();
        noneSaved();
        swapWaits();
        swapToNoProgram();
        swapInNoRun();
        valueOfTheRun();
        noValue();
        sharedRows();
        noneToShare();
        numberOfTheTable();
        notInTheTable();
        toldSecond();
        toldPhases();
        toldProgram();
        toldSwap();
        toldWithoutARun();
        toldAnother();
    }

    /** A run with all that there is to be saved: branches, a LIMIT, a REPEAT, a RAMP, a name, a phase. */
    private int program(Teller t) {
        int left = t.repeat(t.num(3), t.row(t.count(0), t.call(1), t.ramp(1, t.add(t.val(0), t.num(20)), t.num(2))));
        int right = t.limit(t.less(t.val(0), t.num(2)), t.pause(50), t.row(t.out(2, t.num(9)), t.pause(2)));
        return t.make(t.row(t.bind(1, t.pause(1)), t.phase(t.side(left, right)), t.bind(1, t.count(2)), t.pause(1),
            t.call(1), t.when(t.sig(0), t.call(7), NONE)));
    }

    private void savedAsItIs() {
        // before second 0, in each second, and when it has ended (in second 10) or is held
        for (int second = 0; second <= 12; second++) {
            Asked q = s.stands("Promise 11: save", "The run is saved as it is,");
            Teller t = q.t;
            q.signal(0, second % 2);
            int program = program(t);
            int end = second % 2 == 1 ? 2 : 0;
            q.runs(program, second, second <= 10 ? 1 : end);
            String saved = q.look();
            q.save(0);
            q.looks(saved);
            q.tick(1, second < 10 ? 1 : end);
            String next = q.look();
            q.tick(50, end);
            String last = q.look();
            // a run with an alarm of another second, kind and place
            t.run(t.out(0, t.div(t.num(1), t.num(0))));
            q.tick(1, 2);
            q.back(0, true);
            q.looks(saved);
            q.tick(1, second < 10 ? 1 : end);
            q.looks(next);
            q.tick(50, end);
            q.looks(last);
        }
    }

    private void savedWithASwap() {
        Asked q = s.stands("Promise 11: save", "a swap that waits too:");
        Teller t = q.t;
        int p = t.phase(t.pause(1));
        int a = t.make(t.row(p, t.mark(1)));
        int b = t.make(t.row(p, t.mark(2)));
        int c = t.make(t.row(p, t.mark(3)));
        q.start(a);
        q.save(0);
        q.swap(b, 0);
        q.save(1);
        q.swap(c, 0);
        q.save(2);
        for (int saved : new int[] {2, 0, 1, 0, 2, 1}) {
            q.back(saved, true);
            q.told(3, saved == 0 ? 0 : 1);
            q.told(2, a);
            q.tick(2, 0);
            q.value(0, saved + 1);
        }
        // as it is: a swap behind the save is not saved
        q.back(0, true);
        q.swap(c, 0);
        q.back(0, true);
        q.told(3, 0);
    }

    private void savedNumber() {
        Asked q = s.stands("Promise 11: save", "its number, from 0.");
        q.t.run(q.t.pause(20));
        for (int k = 0; k < 8; k++) {
            q.back(k, false);
            q.save(k);
            q.tick(1, 1);
        }
        for (int k = 7; k >= 0; k--) {
            q.back(k, true);
            q.told(0, k);
        }
    }

    private void savedWithoutARun() {
        Asked q = s.stands("Promise 11: save", "NONE, refused, without a run;");
        q.save(NONE);
        q.save(NONE);
        q.make(q.t.pause(1), 0);
        q.save(NONE);
        q.start(1, NONE);
        q.save(NONE);
        q.back(0, false);
        q.back(-1, false);
        q.start(0, 0);
        q.save(0);
        q.tick(2, 0);
        q.save(1);
    }

    private void eightSaved() {
        Asked q = s.stands("Promise 11: save", "FULL when there are 8.");
        q.t.run(q.t.pause(20));
        for (int k = 0; k < 7; k++) {
            q.save(k);
            q.tick(1, 1);
        }
        q.save(7);
        q.tick(1, 1);
        q.save(FULL);
        q.save(FULL);
        q.back(8, false);
        q.told(0, 8);
        q.back(7, true);
        q.told(0, 7);
        q.save(FULL);
        q.back(0, true);
        q.told(0, 0);
        // a start or a back makes no room for more
        q.start(0, 0);
        q.save(FULL);
        q.back(6, true);
        q.told(0, 6);
    }

    private void becomesWhatWasSaved() {
        Asked q = s.stands("Promise 12: back", "The run becomes what was saved");
        Teller t = q.t;
        int program = program(t);
        q.start(program);
        q.tick(1, 1);
        String early = q.look();
        q.save(0);
        q.tick(5, 1);
        String late = q.look();
        q.save(1);
        // from one to the other, again and again: what is put back is not changed by what is done with it
        for (int round = 0; round < 2; round++) {
            q.back(0, true);
            q.looks(early);
            q.tick(5, 1);
            q.looks(late);
            q.tick(50, 0);
            q.back(1, true);
            q.looks(late);
            q.back(1, true);
            q.tick(50, 0);
        }
        t.run(t.row(t.out(5, t.num(5)), t.let(5, t.num(5)), t.call(5)));
        q.tick(1, 2);
        q.back(0, true);
        q.looks(early);
    }

    /** How many are around one another, and how many SIDEs are not over, is put back, too. */
    private void becomesAsDeep() {
        Asked q = s.stands("Promise 12: back", "The run becomes what was saved");
        Teller t = q.t;
        int wait = t.pause(9);
        // 59 REPEATs, 118 ROW, 119 WAIT 120, 121 IF 122, 123 REPEAT 124, 125 REPEAT 126, 127 WAIT 128,
        // 129 REPEAT 130, 131 WAIT
        int deep = t.make(t.repeats(59, t.row(t.pause(1), t.when(t.sig(0), t.repeats(2, wait), t.repeats(1, wait)))));
        // 48 SIDEs, 144 ROW, 145 WAIT 146, 147 IF 148, 149 SIDE, 150 WAIT 151, 152 SIDE (5 places),
        // 157 SIDE, 158 WAIT 159, 160 WAIT
        int inner = t.row(t.pause(1), t.when(t.sig(0), t.side(wait, t.side(wait, wait)), t.side(wait, wait)));
        int broad = t.make(t.sides(48, wait, inner));
        q.runs(deep, 1, 1);
        q.save(0);
        q.runs(broad, 1, 1);
        q.save(1);
        for (int saved : new int[] {0, 1, 1, 0, 0}) {
            q.signal(0, 0);
            q.back(saved, true);
            q.tick(1, 1);
            q.step(saved == 0 ? 0 : 49, saved == 0 ? 131 : 160);
            q.signal(0, 1);
            q.back(saved, true);
            q.tick(1, 2);
            q.held(1, 4, saved == 0 ? 125 : 152);
        }
    }

    private void programsStay() {
        Asked q = s.stands("Promise 12: back", "(programs, nodes, signals stay;");
        Teller t = q.t;
        q.signal(0, 1);
        t.run(t.repeat(t.num(99), t.row(t.out(0, t.sig(0)), t.pause(1))));
        q.tick(1, 1);
        q.save(0);
        q.signal(0, 2);
        int leaf = t.num(3);
        int wait = t.await(leaf);
        q.make(wait, 1);
        q.back(0, true);
        q.output(0, 1);
        q.tick(1, 1);
        q.output(0, 2);
        q.leaf(0, 3, wait + 1);
        q.node(12, leaf, 0, 0, wait + 2);
        q.make(wait + 2, 2);
        q.shared(1, 2, true);
        q.start(1, 0);
        q.told(2, 1);
        q.back(0, true);
        q.told(2, 0);
    }

    private void swapWaitsIfOneDid() {
        Asked q = s.stands("Promise 12: back", "a swap waits if one did then): true.");
        Teller t = q.t;
        int p = t.phase(t.pause(1));
        int a = t.make(t.row(p, t.mark(1), p, t.mark(2)));
        int b = t.make(t.row(p, t.mark(3), p, t.mark(4)));
        q.start(a);
        q.save(0);
        q.swap(b, 0);
        q.save(1);
        q.tick(2, 1);
        q.told(3, 0);
        q.save(2);
        q.back(1, true);
        q.told(3, 1);
        q.back(2, true);
        q.told(3, 0);
        q.told(2, b);
        q.tick(1, 0);
        q.value(0, 34);
        q.back(1, true);
        q.told(3, 1);
        q.back(0, true);
        q.told(3, 0);
        q.tick(3, 0);
        q.value(0, 12);
        q.back(1, true);
        q.tick(3, 0);
        q.value(0, 34);
    }

    private void noneSaved() {
        Asked q = s.stands("Promise 12: back", "False, refused, when there is none such.");
        for (int saved : new int[] {LOW, -1, 0, 1, HIGH}) {
            q.back(saved, false);
        }
        q.tick(1, 3);
        int program = program(q.t);
        q.start(program);
        q.back(0, false);
        q.save(0);
        q.tick(3, 1);
        q.save(1);
        q.tick(1, 1);
        q.swap(program, 0);
        String before = q.look();
        for (int saved : new int[] {LOW, -2, -1, 2, 3, 7, 8, HIGH}) {
            q.back(saved, false);
        }
        q.looks(before);
        q.back(1, true);
        q.told(0, 3);
        q.back(0, true);
        q.told(0, 0);
    }

    private void swapWaits() {
        Asked q = s.stands("Promise 13: swap", "A swap to a program waits, whatever waited: 0.");
        Teller t = q.t;
        int p = t.phase(t.pause(1));
        int[] programs = new int[4];
        for (int k = 0; k < 4; k++) {
            programs[k] = t.make(t.row(p, t.mark(k)));
        }
        int[][] rows = {{1}, {2, 1}, {1, 2}, {1, 1}, {3, 2, 1}, {1, 0}, {0}};
        for (int[] row : rows) {
            q.start(programs[0]);
            q.told(3, 0);
            for (int k : row) {
                q.swap(programs[k], 0);
                q.told(3, 1);
                q.told(2, programs[0]);
            }
            q.tick(2, 0);
            q.told(3, 0);
            q.value(0, row[row.length - 1]);
            q.told(2, programs[row[row.length - 1]]);
        }
    }

    private void swapToNoProgram() {
        Asked q = s.stands("Promise 13: swap", "1, refused, when there is no such program,");
        Teller t = q.t;
        int p = t.phase(t.pause(1));
        int a = t.make(t.row(p, t.mark(1)));
        q.start(a);
        int[] none = {LOW, -2, -1, 2, 3, 19, 20, HIGH};
        q.swap(1, 1);
        q.told(3, 0);
        int b = t.make(t.row(p, t.mark(2)));
        for (int program : none) {
            q.swap(program, 1);
        }
        q.told(3, 0);
        q.swap(b, 0);
        for (int program : none) {
            q.swap(program, 1);
        }
        q.told(3, 1);
        q.tick(2, 0);
        q.value(0, 2);
        q.start(a);
        q.swap(2, 1);
        q.swap(-1, 1);
        q.tick(2, 0);
        q.value(0, 1);
    }

    private void swapInNoRun() {
        Asked q = s.stands("Promise 13: swap", "or no run that goes on.");
        Teller t = q.t;
        int ends = t.make(t.row(t.phase(t.pause(1)), t.mark(1)));
        int faults = t.make(t.row(t.phase(t.pause(1)), t.call(0)));
        q.swap(ends, 1);
        q.told(3, 0);
        for (int program : new int[] {ends, faults}) {
            int end = program == ends ? 0 : 2;
            q.runs(program, 2, end);
            q.swap(ends, 1);
            q.told(3, 0);
            q.tick(1, end);
            q.told(2, program);
            // in the last second before, it waits
            q.runs(program, 1, 1);
            q.swap(ends, 0);
            q.told(3, 1);
            q.tick(1, 0);
            q.value(0, 1);
        }
        q.start(ends);
        q.told(3, 0);
        q.swap(faults, 0);
        q.told(3, 1);
    }

    private void valueOfTheRun() {
        Asked q = s.stands("Promise 14: value", "A value of the run;");
        Teller t = q.t;
        int all = t.pause(1);
        for (int k = 0; k < 16; k++) {
            all = t.row(t.let(k, t.num(k == 3 ? Long.MIN_VALUE : k == 4 ? Long.MAX_VALUE : 100 + k)), all);
        }
        int program = t.make(t.row(all, t.when(t.sig(0), t.call(0), NONE)));
        for (int fault = 0; fault <= 1; fault++) {
            q.signal(0, fault);
            q.start(program);
            for (int k = 0; k < 16; k++) {
                q.value(k, 0);
            }
            q.tick(1, 1);
            for (int round = 0; round <= 1; round++) {
                for (int k = 0; k < 16; k++) {
                    q.value(k, k == 3 ? Long.MIN_VALUE : k == 4 ? Long.MAX_VALUE : 100 + k);
                }
                // of a run that has ended or is held, too
                q.tick(1, fault == 1 ? 2 : 0);
            }
        }
    }

    private void noValue() {
        Asked q = s.stands("Promise 14: value", "0 when there is none.");
        Teller t = q.t;
        int[] none = {LOW, -16, -2, -1, 16, 17, 32, HIGH};
        for (int k : none) {
            q.value(k, 0);
        }
        q.value(0, 0);
        q.value(15, 0);
        int all = t.pause(1);
        for (int k = 0; k < 16; k++) {
            all = t.row(t.let(k, t.num(100 + k)), all);
        }
        q.make(all, 0);
        q.value(0, 0);
        q.runs(0, 1, 1);
        for (int k : none) {
            q.value(k, 0);
        }
        q.value(0, 100);
        q.value(15, 115);
    }

    private void sharedRows() {
        Asked q = s.stands("Promise 15: shared", "Whether two programs share their rows.");
        Teller t = q.t;
        q.make(t.pause(1), 0);
        q.make(t.pause(2), 1);
        q.make(t.pause(1), 2);
        q.make(t.pause(2), 3);
        q.make(t.pause(3), 4);
        for (int a = 0; a < 5; a++) {
            for (int b = 0; b < 5; b++) {
                q.shared(a, b, a == b || a < 4 && b < 4 && a % 2 == b % 2);
            }
        }
        // it does not hang on a run
        q.runs(0, 1, 1);
        q.shared(0, 2, true);
        q.shared(0, 1, false);
    }

    private void noneToShare() {
        Asked q = s.stands("Promise 15: shared", "False when one is none.");
        int[] none = {LOW, -2, -1, 1, 2, 19, 20, HIGH};
        q.shared(0, 0, false);
        int wait = q.t.pause(1);
        q.make(wait, 0);
        q.shared(0, 0, true);
        for (int k : none) {
            q.shared(0, k, false);
            q.shared(k, 0, false);
            q.shared(k, k, false);
        }
        q.shared(-1, 1, false);
        q.make(wait, 1);
        q.shared(0, 1, true);
        q.shared(1, 2, false);
        q.shared(2, 1, false);
    }

    private void numberOfTheTable() {
        Asked q = s.stands("Promise 16: table", "Number i of the TABLE.");
        int[] table = {1, 2, 3, 5, 8, 13, 21, 34, 55, 89};
        for (int round = 0; round < 2; round++) {
            for (int i = 0; i < 10; i++) {
                q.table(i, table[i]);
            }
            q.t.run(q.t.pause(1));
            q.tick(1, 1);
        }
    }

    private void notInTheTable() {
        Asked q = s.stands("Promise 16: table", "IndexOutOfBoundsException: i is not 0 .. 9.");
        for (int i : new int[] {LOW, LOW + 1, -2, -1, 10, 11, 255, HIGH}) {
            q.tableThrows(i);
        }
        q.table(0, 1);
        q.table(9, 89);
        q.t.run(q.t.row(q.t.count(0), q.t.pause(3)));
        q.tick(1, 1);
        String before = q.look();
        q.tableThrows(-1);
        q.tableThrows(10);
        q.looks(before);
        q.tick(0, 1);
    }

    private void toldSecond() {
        Asked q = s.stands("Promise 17: told", "The second of the run that comes next (what = 0),");
        Teller t = q.t;
        int program = t.make(t.row(t.pause(2), t.when(t.sig(0), t.call(0), NONE)));
        for (int fault = 0; fault <= 1; fault++) {
            q.signal(0, fault);
            q.start(program);
            q.told(0, 0);
            q.tick(0, 1);
            q.told(0, 0);
            q.tick(1, 1);
            q.told(0, 1);
            q.save(fault);
            q.tick(1, 1);
            q.told(0, 2);
            q.tick(1, fault == 1 ? 2 : 0);
            q.told(0, 3);
            q.tick(1, fault == 1 ? 2 : 0);
            q.told(0, 3);
            q.back(fault, true);
            q.told(0, 1);
        }
    }

    private void toldPhases() {
        Asked q = s.stands("Promise 17: told", "phases that were over in it, in all its programs (1),");
        Teller t = q.t;
        int p = t.phase(t.pause(1));
        int a = t.make(t.row(p, p, t.pause(1), p));
        int b = t.make(t.row(p, t.phase(t.count(0)), p, t.pause(1)));
        q.start(a);
        int[] due = {0, 1, 2, 2, 3};
        for (int second = 0; second <= 4; second++) {
            q.told(1, second == 0 ? 0 : due[second - 1]);
            q.tick(1, second < 4 ? 1 : 0);
            q.told(1, due[second]);
        }
        q.tick(5, 0);
        q.told(1, 3);
        q.start(a);
        q.told(1, 0);
        q.swap(b, 0);
        q.tick(1, 1);
        q.told(1, 0);
        q.tick(1, 1);
        q.told(1, 2);
        q.tick(1, 1);
        q.told(1, 3);
        q.tick(1, 0);
        q.told(1, 3);
    }

    private void toldProgram() {
        Asked q = s.stands("Promise 17: told", "the program that it is in, the first that has its rows (2),");
        Teller t = q.t;
        int p = t.phase(t.pause(1));
        q.make(t.pause(9), 0);
        q.make(t.row(p, t.pause(1)), 1);
        q.make(t.pause(9), 2);
        q.make(t.row(t.phase(t.pause(1)), t.pause(1)), 3);
        q.make(t.row(p, t.pause(2)), 4);
        int[] due = {0, 1, 0, 1, 4};
        for (int program = 0; program < 5; program++) {
            q.start(program);
            q.told(2, due[program]);
        }
        q.swap(3, 0);
        q.tick(1, 1);
        q.told(2, 4);
        q.tick(1, 1);
        q.told(2, 1);
        q.tick(1, 0);
        q.told(2, 1);
        q.start(5, NONE);
        q.told(2, 1);
        t.run(t.row(t.call(0), t.pause(1)));
        q.tick(1, 2);
        q.told(2, 5);
    }

    private void toldSwap() {
        Asked q = s.stands("Promise 17: told", "1 when a swap waits (3);");
        Teller t = q.t;
        int a = t.make(t.row(t.pause(1), t.phase(t.pause(1)), t.pause(1)));
        q.start(a);
        q.told(3, 0);
        q.swap(1, 1);
        q.told(3, 0);
        q.swap(a, 0);
        q.told(3, 1);
        q.tick(2, 1);
        q.told(3, 1);
        q.tick(1, 1);
        q.told(3, 0);
        q.tick(1, 0);
        q.told(3, 0);
        q.start(a);
        q.told(3, 0);
        // a run that ends or is held before a phase is over: nothing has let the swap wait no more
        int without = t.make(t.row(t.pause(1), t.when(t.sig(0), t.call(0), NONE)));
        for (int fault = 0; fault <= 1; fault++) {
            q.signal(0, fault);
            q.start(without);
            q.swap(a, 0);
            q.tick(2, fault == 1 ? 2 : 0);
            q.told(3, 1);
            q.told(2, without);
        }
        q.start(without);
        q.told(3, 0);
    }

    private void toldWithoutARun() {
        Asked q = s.stands("Promise 17: told", "0 of 0, 1 and 3, NONE of 2, without a run;");
        for (int round = 0; round < 2; round++) {
            q.told(0, 0);
            q.told(1, 0);
            q.told(2, NONE);
            q.told(3, 0);
            q.tick(1, 3);
            q.swap(0, 1);
            q.make(q.t.phase(q.t.pause(1)), round);
        }
        q.start(0, 0);
        q.tick(2, 0);
        q.told(0, 2);
        q.told(1, 1);
        q.told(2, 0);
        q.told(3, 0);
    }

    private void toldAnother() {
        Asked q = s.stands("Promise 17: told", "NONE for another what.");
        int[] others = {LOW, -2, -1, 4, 5, HIGH};
        for (int what : others) {
            q.told(what, NONE);
        }
        int program = program(q.t);
        q.start(program);
        q.swap(program, 0);
        q.tick(1, 1);
        for (int what : others) {
            q.told(what, NONE);
        }
        q.told(0, 1);
        q.told(1, 0);
        q.told(2, program);
        q.told(3, 1);
    }
}
