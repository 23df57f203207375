/** Promises 6 to 10, a run and what is seen of it: a test for each sentence. */
final class TickBounds {
    private static final int NONE = Asked.NONE;
    private static final int LOW = Integer.MIN_VALUE;
    private static final int HIGH = Integer.MAX_VALUE;

    private final Sentences s;

    TickBounds(Sentences s) {
        this.s = s;
    }

    void all() {
        startsNotDone();
        startsWithoutAlarms();
        startsWithoutSwap();
        noSuchProgram();
        upToSoMany();
        asLongAsItGoesOn();
        hasEnded();
        goesOn();
        isHeld();
        thereIsNone();
        notSoMany();
        outputOfTheRun();
        noOutput();
        placeOfBranch();
        noBranch();
        noRunThatGoesOn();
        alarmOfTheRun();
        noAlarm();
    }

    private void startsNotDone() {
        Asked q = s.stands("Promise 6: start", "A run begins, with second 0 not done yet,");
        Teller t = q.t;
        int program = t.make(t.row(t.out(0, t.num(5)), t.count(0), t.pause(1), t.count(0)));
        for (int before = 0; before <= 3; before++) {
            q.start(program, 0);
            q.told(0, 0);
            q.told(1, 0);
            q.output(0, 0);
            q.value(0, 0);
            q.steps();
            q.tick(0, 1);
            q.output(0, 0);
            // the next start meets a run that has not begun, one that goes on, and two that have ended
            q.tick(before, before < 2 ? 1 : 0);
            q.output(0, before == 0 ? 0 : 5);
            q.value(0, Math.min(before, 2));
            q.told(0, Math.min(before, 2));
        }
    }

    private void startsWithoutAlarms() {
        Asked q = s.stands("Promise 6: start", "no alarms;");
        Teller t = q.t;
        int fault = t.make(t.row(t.pause(1), t.call(0)));
        int fine = t.make(t.pause(1));
        for (int program : new int[] {fault, fine, fault, fault}) {
            q.start(program, 0);
            q.tick(0, 1);
            q.alarm(0, 0, NONE);
            q.alarm(0, 1, NONE);
            q.alarm(0, 2, NONE);
            q.tick(2, program == fault ? 2 : 0);
            q.alarm(0, 0, program == fault ? 1 : NONE);
        }
    }

    private void startsWithoutSwap() {
        Asked q = s.stands("Promise 6: start", "a swap waits no more: 0.");
        Teller t = q.t;
        int p = t.phase(t.pause(1));
        int a = t.make(t.row(p, t.mark(1)));
        int b = t.make(t.row(p, t.mark(2)));
        q.start(a, 0);
        q.told(3, 0);
        q.swap(b, 0);
        q.told(3, 1);
        q.start(a, 0);
        q.told(3, 0);
        q.tick(2, 0);
        q.value(0, 1);
        q.start(b, 0);
        q.swap(b, 0);
        q.start(b, 0);
        q.told(3, 0);
        q.tick(2, 0);
        q.value(0, 2);
    }

    private void noSuchProgram() {
        Asked q = s.stands("Promise 6: start", "NONE, refused, when there is no such program.");
        Teller t = q.t;
        q.start(0, NONE);
        q.tick(1, 3);
        q.told(2, NONE);
        int p = t.phase(t.pause(2));
        q.make(t.row(t.out(0, t.num(5)), t.count(0), p, t.pause(4)), 0);
        q.start(1, NONE);
        q.tick(1, 3);
        q.make(p, 1);
        q.start(0, 0);
        q.tick(1, 1);
        q.swap(1, 0);
        String before = q.look();
        for (int program : new int[] {LOW, -2, -1, 2, 3, 19, 20, HIGH}) {
            q.start(program, NONE);
        }
        q.looks(before);
        q.start(1, 0);
        q.told(2, 1);
        q.start(0, 0);
        q.told(2, 0);
    }

    private void upToSoMany() {
        Asked q = s.stands("Promise 7: tick", "Up to so many seconds (0 .. 10,000) of the run,");
        Teller t = q.t;
        int program = t.make(t.repeat(t.num(Long.MAX_VALUE), t.row(t.count(0), t.pause(1))));
        for (int seconds : new int[] {0, 1, 2, 9999, 10000}) {
            q.start(program);
            q.tick(seconds, 1);
            q.told(0, seconds);
            q.value(0, seconds);
            q.tick(1, 1);
            q.told(0, seconds + 1);
        }
        q.start(program);
        for (int seconds : new int[] {-1, 10001}) {
            q.tick(seconds, NONE);
            q.told(0, 0);
            q.value(0, 0);
        }
    }

    private void asLongAsItGoesOn() {
        Asked q = s.stands("Promise 7: tick", "as long as it goes on:");
        Teller t = q.t;
        int ends = t.make(t.row(t.pause(3), t.count(0)));
        int faults = t.make(t.row(t.pause(3), t.count(0), t.call(0)));
        for (int seconds : new int[] {2, 3, 4, 5, 10000}) {
            q.runs(ends, seconds, seconds < 4 ? 1 : 0);
            q.told(0, Math.min(seconds, 4));
            q.value(0, seconds < 4 ? 0 : 1);
            q.runs(faults, seconds, seconds < 4 ? 1 : 2);
            q.told(0, Math.min(seconds, 4));
            q.value(0, seconds < 4 ? 0 : 1);
        }
    }

    private void hasEnded() {
        Asked q = s.stands("Promise 7: tick", "0 it has ended,");
        Teller t = q.t;
        t.run(t.row(t.pause(1), t.count(0)));
        q.tick(1, 1);
        q.tick(1, 0);
        String before = q.look();
        q.tick(0, 0);
        q.tick(1, 0);
        q.tick(10000, 0);
        q.looks(before);
    }

    private void goesOn() {
        Asked q = s.stands("Promise 7: tick", "1 it goes on,");
        Teller t = q.t;
        t.run(t.pause(10000));
        q.tick(0, 1);
        q.tick(9999, 1);
        q.tick(1, 1);
        q.tick(0, 1);
        q.tick(1, 0);
        q.tick(0, 0);
    }

    private void isHeld() {
        Asked q = s.stands("Promise 7: tick", "2 it is HELD,");
        Teller t = q.t;
        t.run(t.row(t.pause(1), t.call(0)));
        q.tick(1, 1);
        q.tick(1, 2);
        String before = q.look();
        q.tick(0, 2);
        q.tick(1, 2);
        q.tick(10000, 2);
        q.looks(before);
    }

    private void thereIsNone() {
        Asked q = s.stands("Promise 7: tick", "3 there is none.");
        q.tick(0, 3);
        q.tick(1, 3);
        q.tick(10000, 3);
        q.told(0, 0);
        int wait = q.t.pause(1);
        q.tick(1, 3);
        q.make(wait, 0);
        q.tick(1, 3);
        q.start(1, NONE);
        q.tick(1, 3);
        q.start(0, 0);
        q.tick(0, 1);
    }

    private void notSoMany() {
        Asked q = s.stands("Promise 7: tick", "NONE, refused, when there are not so many.");
        Teller t = q.t;
        int[] refused = {LOW, -10000, -2, -1, 10001, 10002, HIGH};
        for (int seconds : refused) {
            q.tick(seconds, NONE);
        }
        int program = t.make(t.row(t.out(0, t.num(5)), t.pause(2), t.await(t.sig(0)), t.call(0)));
        q.start(program);
        for (int done = 0; done <= 2; done++) {
            String before = q.look();
            for (int seconds : refused) {
                q.tick(seconds, NONE);
            }
            q.looks(before);
            q.tick(0, done < 2 ? 1 : 2);
            q.tick(done == 0 ? 1 : 10000, done == 0 ? 1 : 2);
        }
        t.run(t.count(0));
        q.tick(1, 0);
        for (int seconds : refused) {
            q.tick(seconds, NONE);
        }
        q.tick(1, 0);
        q.told(0, 1);
    }

    private void outputOfTheRun() {
        Asked q = s.stands("Promise 8: output", "An output of the run;");
        Teller t = q.t;
        int all = t.pause(1);
        for (int k = 0; k < 8; k++) {
            all = t.row(t.out(k, t.num(k == 3 ? Long.MIN_VALUE : k == 4 ? Long.MAX_VALUE : 200 + k)), all);
        }
        long[] due = {200, 201, 202, Long.MIN_VALUE, Long.MAX_VALUE, 205, 206, 207};
        int program = t.make(t.row(all, t.when(t.sig(0), t.call(0), NONE)));
        for (int fault = 0; fault <= 1; fault++) {
            q.signal(0, fault);
            q.start(program);
            q.outputs();
            q.tick(1, 1);
            q.outputs(due);
            // of a run that has ended or is held, too
            q.tick(1, fault == 1 ? 2 : 0);
            q.outputs(due);
        }
        q.start(program);
        q.outputs();
    }

    private void noOutput() {
        Asked q = s.stands("Promise 8: output", "0 when there is none.");
        Teller t = q.t;
        int[] none = {LOW, -8, -2, -1, 8, 9, 15, 16, HIGH};
        for (int k : none) {
            q.output(k, 0);
        }
        q.outputs();
        int all = t.pause(1);
        for (int k = 0; k < 8; k++) {
            all = t.row(t.out(k, t.num(200 + k)), t.let(k, t.num(1)), t.let(k + 8, t.num(2)), all);
        }
        q.make(all, 0);
        q.outputs();
        q.runs(0, 1, 1);
        for (int k : none) {
            q.output(k, 0);
        }
        q.output(0, 200);
        q.output(7, 207);
    }

    private void placeOfBranch() {
        String heading = "Promise 9: step";
        Asked q = s.stands(heading,
            "The place of the WAIT or RAMP at which branch k stands, of those that stand, from the left;");
        Teller t = q.t;
        int wait = t.pause(2);
        // 0 ROW, 1 BIND 2 WAIT 3, 4 SIDE, 5 SIDE, 6 RAMP 7 8, 9 CALL, 10 SIDE, 11 WAIT 12, 13 LIMIT 14, 15 WAIT 16, 17 WAIT
        int root = t.row(t.bind(0, wait), t.side(t.side(t.ramp(0, t.num(3), t.num(3)), t.call(0)),
            t.side(t.pause(1), t.limit(t.sig(0), t.pause(4), t.pause(4)))));
        q.signal(0, 1);
        t.run(root);
        q.steps();
        q.tick(1, 1);
        q.steps(6, 2, 11, 15);
        q.tick(1, 1);
        q.steps(6, 2, 15);
        q.signal(0, 0);
        q.tick(1, 1);
        q.steps(6, 17);
        q.tick(1, 1);
        q.steps(17);
        q.tick(2, 1);
        q.steps(17);
        q.tick(1, 0);
        q.steps();
    }

    private void noBranch() {
        Asked q = s.stands("Promise 9: step", "NONE when there is none,");
        Teller t = q.t;
        t.run(t.side(t.pause(2), t.pause(1)));
        for (int k = -1; k <= 2; k++) {
            q.step(k, NONE);
        }
        q.tick(1, 1);
        for (int k : new int[] {LOW, -2, -1, 2, 3, 50, 99, 100, 101, HIGH}) {
            q.step(k, NONE);
        }
        q.step(0, 1);
        q.step(1, 3);
        q.tick(1, 1);
        q.step(0, 1);
        q.step(1, NONE);
        q.step(-1, NONE);
    }

    private void noRunThatGoesOn() {
        Asked q = s.stands("Promise 9: step", "or no run that goes on.");
        Teller t = q.t;
        q.steps();
        int ends = t.make(t.pause(1));
        int faults = t.make(t.side(t.pause(9), t.row(t.pause(1), t.call(0))));
        q.steps();
        q.start(ends);
        q.tick(1, 1);
        q.steps(0);
        q.tick(1, 0);
        q.steps();
        q.start(faults);
        q.tick(1, 1);
        q.steps(1, 4);
        q.save(0);
        q.tick(1, 2);
        q.step(0, NONE);
        q.step(1, NONE);
        q.back(0, true);
        q.steps(1, 4);
    }

    private void alarmOfTheRun() {
        Asked q = s.stands("Promise 10: alarm", "Alarm k of the run: its second (what = 0), kind (1), place (2).");
        Teller t = q.t;
        int table = t.make(t.row(t.pause(3), t.out(0, t.add(t.num(1), t.tab(t.sig(0))))));
        q.signal(0, 10);
        q.start(table);
        q.tick(3, 1);
        q.alarm(0, 0, NONE);
        q.tick(1, 2);
        q.alarm(0, 0, 3);
        q.alarm(0, 1, 2);
        q.alarm(0, 2, 6);
        q.tick(50, 2);
        q.alarm(0, 0, 3);
        q.alarm(0, 1, 2);
        q.alarm(0, 2, 6);
        t.run(t.call(0));
        q.tick(1, 2);
        q.alarm(0, 0, 0);
        q.alarm(0, 1, 3);
        q.alarm(0, 2, 0);
    }

    private void noAlarm() {
        Asked q = s.stands("Promise 10: alarm", "NONE when there is none.");
        Teller t = q.t;
        for (int k = -1; k <= 1; k++) {
            for (int what = -1; what <= 3; what++) {
                q.alarm(k, what, NONE);
            }
        }
        t.run(t.row(t.pause(1), t.when(t.sig(0), t.call(0), NONE)));
        for (int fault = 0; fault <= 1; fault++) {
            q.signal(0, fault);
            q.start(0);
            q.tick(1, 1);
            q.alarm(0, 0, NONE);
            q.tick(1, fault == 1 ? 2 : 0);
            for (int k : new int[] {LOW, -1, 0, 1, 2, HIGH}) {
                for (int what : new int[] {LOW, -1, 0, 1, 2, 3, HIGH}) {
                    boolean is = fault == 1 && k == 0 && what >= 0 && what <= 2;
                    // second 1, kind 3, place 5: 0 ROW, 1 WAIT 2, 3 IF 4, 5 CALL
                    q.alarm(k, what, is ? new int[] {1, 3, 5}[what] : NONE);
                }
            }
        }
    }
}
