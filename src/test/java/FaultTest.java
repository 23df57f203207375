/** Promise 10: alarm; and the four kinds of faults with their places. */
public final class FaultTest {
    private static final Due due = new Due("FaultTest");

    public static void main(String[] args) {
        kinds();
        firstFromTheLeft();
        whatWasDoneStays();
        inALimit();
        inACall();
        begunInOneSecond();
        countedFirst();
        aroundOneAnother();
        aroundByLimits();
        aroundByCalls();
        aroundAndReckoned();
        branches();
        branchesOver();
        due.end();
    }

    private static void alarm(StepRows x, int second, int kind, int place) {
        due.is("tick(1)", x.tick(1), 2);
        due.is("alarm(0, 0)", x.alarm(0, 0), second);
        due.is("alarm(0, 1)", x.alarm(0, 1), kind);
        due.is("alarm(0, 2)", x.alarm(0, 2), place);
        due.is("alarm(0, 3)", x.alarm(0, 3), -1);
        due.is("alarm(0, -1)", x.alarm(0, -1), -1);
        due.is("alarm(1, 0)", x.alarm(1, 0), -1);
        due.is("alarm(-1, 0)", x.alarm(-1, 0), -1);
        due.is("told(0)", x.told(0), second + 1);
        due.is("held for good", x.tick(10000), 2);
        due.is("told(0)", x.told(0), second + 1);
        due.is("step(0)", x.step(0), -1);
        due.is("swap(0)", x.swap(0), 1);
    }

    private static void kinds() {
        StepRows x = new StepRows();
        Teller t = new Teller(x);
        t.run(t.row(t.pause(3), t.let(0, t.add(t.num(1), t.div(t.num(1), t.sig(0))))));
        due.is("tick(3)", x.tick(3), 1);
        due.is("no alarm", x.alarm(0, 0), -1);
        alarm(x, 3, 1, 6);
        for (long i : new long[] {-1, 10, 1L << 32, Long.MIN_VALUE, Long.MAX_VALUE}) {
            t.run(t.await(t.tab(t.num(i))));
            alarm(x, 0, 2, 1);
        }
        t.run(t.row(t.bind(1, t.count(0)), t.call(2)));
        alarm(x, 0, 3, 6);
        t.run(t.repeat(t.num(9999), t.count(0)));
        alarm(x, 0, 4, 2);
        due.is("value(0)", x.value(0), 499);
    }

    private static void firstFromTheLeft() {
        StepRows x = new StepRows();
        Teller t = new Teller(x);
        int table = t.tab(t.num(10));
        int division = t.div(t.num(1), t.num(0));
        t.run(t.out(0, t.add(table, division)));
        alarm(x, 0, 2, 2);
        t.run(t.out(0, t.add(division, table)));
        alarm(x, 0, 1, 2);
        t.run(t.out(0, t.div(t.num(1), division)));
        alarm(x, 0, 1, 3);
        t.run(t.out(0, t.div(table, t.num(0))));
        alarm(x, 0, 2, 2);
        t.run(t.ramp(0, table, division));
        alarm(x, 0, 2, 1);
        t.run(t.ramp(0, t.num(4), division));
        alarm(x, 0, 1, 2);
        due.is("output(0)", x.output(0), 0);
        t.run(t.when(division, t.count(0), t.count(1)));
        alarm(x, 0, 1, 1);
        due.is("value(1)", x.value(1), 0);
        t.run(t.repeat(division, t.count(0)));
        alarm(x, 0, 1, 1);
        t.run(t.limit(division, t.count(0), t.count(1)));
        alarm(x, 0, 1, 1);
        due.is("value(1)", x.value(1), 0);
        t.run(t.row(t.await(division), t.count(0)));
        alarm(x, 0, 1, 2);
        due.is("value(0)", x.value(0), 0);
        t.run(t.row(t.let(0, division), t.count(1)));
        alarm(x, 0, 1, 2);
        due.is("value(1)", x.value(1), 0);
    }

    private static void whatWasDoneStays() {
        StepRows x = new StepRows();
        Teller t = new Teller(x);
        int left = t.row(t.ramp(0, t.num(10), t.num(5)), t.count(0));
        int middle = t.row(t.pause(2), t.count(1), t.out(1, t.div(t.num(1), t.num(0))), t.count(1));
        int right = t.ramp(2, t.num(10), t.num(5));
        // 0 SIDE 1 SIDE 2 ROW 3 RAMP 4 5 6 LET 7 8 9, 10 ROW 11 WAIT 12 13 ROW 14 LET 15 16 17 18 ROW 19 OUT 20 /
        t.run(t.side(t.side(left, middle), right));
        due.is("tick(2)", x.tick(2), 1);
        alarm(x, 2, 1, 20);
        due.is("the left branch had gone on", x.output(0), 4);
        due.is("so had the one with the fault", x.value(1), 1);
        due.is("the right branch had not", x.output(2), 2);
    }

    private static void inALimit() {
        StepRows x = new StepRows();
        Teller t = new Teller(x);
        x.signal(0, 1);
        // 0 ROW 1 LET 2 3 4 5, 6 SIDE 7 RAMP 8 9, 10 LIMIT 11 / 12 13 14 WAIT
        t.run(t.row(t.count(0), t.side(t.ramp(0, t.num(8), t.num(8)),
            t.limit(t.div(t.num(1), t.sig(0)), t.pause(9), t.count(1)))));
        due.is("tick(3)", x.tick(3), 1);
        due.is("output(0)", x.output(0), 2);
        x.signal(0, 0);
        alarm(x, 3, 1, 10);
        due.is("no branch went on", x.output(0), 2);
        due.is("nor was c begun", x.value(1), 0);
    }

    private static void inACall() {
        StepRows x = new StepRows();
        Teller t = new Teller(x);
        // 0 ROW 1 BIND 2 ROW 3 WAIT 4 5 OUT 6 TABLE 7, 8 CALL
        t.run(t.row(t.bind(0, t.row(t.pause(1), t.out(0, t.tab(t.num(11))))), t.call(0)));
        due.is("tick(1)", x.tick(1), 1);
        alarm(x, 1, 2, 6);
    }

    private static void begunInOneSecond() {
        StepRows x = new StepRows();
        Teller t = new Teller(x);
        t.run(t.repeat(t.num(499), t.count(0)));
        due.is("REPEAT and 499", x.tick(1), 0);
        t.run(t.repeat(t.num(500), t.count(0)));
        alarm(x, 0, 4, 2);
        due.is("value(0)", x.value(0), 499);
        int two = t.row(t.count(0), t.count(0));
        t.run(t.row(t.count(1), t.repeat(t.num(249), two)));
        due.is("ROWs do not count", x.tick(1), 0);
        due.is("value(0)", x.value(0), 498);
        // 0 ROW 1 LET 2 3 4 5 REPEAT 6 7 ROW 8 LET
        t.run(t.row(t.count(1), t.repeat(t.num(250), two)));
        alarm(x, 0, 4, 8);
        t.run(t.repeat(t.num(20), t.row(t.repeat(t.num(498), t.count(0)), t.pause(1))));
        due.is("499 and WAIT, and REPEAT in second 0", x.tick(1), 2);
        due.is("the 501st is the WAIT", x.alarm(0, 2), 9);
        t.run(t.repeat(t.num(20), t.row(t.repeat(t.num(497), t.count(0)), t.pause(1))));
        due.is("500 in second 0, 499 in others", x.tick(100), 0);
        due.is("value(0)", x.value(0), 20 * 497);
        int half = t.repeat(t.num(249), t.count(0));
        t.run(t.side(half, half));
        due.is("SIDE and 250 and the other branch's 250", x.tick(1), 2);
        due.is("in the right one", x.alarm(0, 2), 9);
        due.is("value(0)", x.value(0), 249 + 248);
        StepRows y = new StepRows();
        Teller u = new Teller(y);
        // PHASE 1, REPEAT 1, IF 100, BIND 100, REPEAT 1, LET 297: 500
        u.run(u.phase(u.row(u.repeat(u.num(100), u.when(u.num(1), u.bind(0, u.call(0)), -1)),
            u.repeat(u.num(297), u.count(0)))));
        due.is("PHASE, IF and BIND count", y.tick(1), 0);
        u.run(u.phase(u.row(u.repeat(u.num(100), u.when(u.num(1), u.bind(0, u.call(0)), -1)),
            u.repeat(u.num(298), u.count(0)))));
        due.is("one too many", y.tick(1), 2);
    }

    private static void countedFirst() {
        StepRows x = new StepRows();
        Teller t = new Teller(x);
        t.run(t.row(t.repeat(t.num(499), t.count(0)), t.out(0, t.div(t.num(1), t.num(0)))));
        alarm(x, 0, 4, 7);
        t.run(t.row(t.repeat(t.num(499), t.count(0)), t.call(0)));
        alarm(x, 0, 4, 7);
        t.run(t.row(t.repeat(t.num(498), t.count(0)), t.call(0)));
        alarm(x, 0, 3, 7);
    }

    private static void aroundOneAnother() {
        StepRows x = new StepRows();
        Teller t = new Teller(x);
        int sixty = t.repeats(60, t.row(t.count(0), t.phase(t.when(t.num(1), t.pause(1), -1)), t.count(0)));
        t.run(sixty);
        due.is("60 are fine", x.tick(1), 1);
        due.is("tick(1)", x.tick(1), 0);
        due.is("value(0)", x.value(0), 2);
        t.run(t.repeat(t.num(1), sixty));
        alarm(x, 0, 4, 120);
        t.run(t.row(sixty, sixty));
        due.is("one behind the other", x.tick(9), 0);
        t.run(t.side(t.pause(1), sixty));
        alarm(x, 0, 4, 1 + 2 + 118);
        int wait = t.pause(1);
        t.run(t.repeats(59, t.side(wait, wait)));
        due.is("59 and a SIDE", x.tick(1), 1);
        t.run(t.repeats(60, t.side(wait, wait)));
        alarm(x, 0, 4, 120);
    }

    private static void aroundByLimits() {
        StepRows x = new StepRows();
        Teller t = new Teller(x);
        int one = t.num(1);
        int zero = t.num(0);
        int wait = t.pause(1);
        int doesB = wait;
        int doesC = t.limit(one, wait, wait);
        for (int k = 0; k < 60; k++) {
            doesB = t.limit(one, doesB, wait);
            doesC = t.limit(zero, wait, doesC);
        }
        t.run(doesB);
        due.is("60 LIMITs that do b", x.tick(1), 1);
        t.run(t.limit(one, doesB, wait));
        alarm(x, 0, 4, 120);
        t.run(t.repeats(59, doesC));
        due.is("those that do c are not around", x.tick(1), 1);
        StepRows y = new StepRows();
        Teller u = new Teller(y);
        int late = u.repeats(60, u.pause(1));
        y.signal(0, 1);
        u.run(u.limit(u.sig(0), u.pause(9), late));
        y.tick(1);
        y.signal(0, 0);
        due.is("nor when they come to it later", y.tick(1), 1);
        due.is("step(0)", y.step(0) > 100, true);
    }

    private static void aroundByCalls() {
        StepRows x = new StepRows();
        Teller t = new Teller(x);
        // 0 ROW 1 BIND 2 ROW 3 WAIT 4 5 CALL, 6 CALL
        t.run(t.row(t.bind(0, t.row(t.pause(1), t.call(0))), t.call(0)));
        due.is("60 CALLs in seconds 0 to 59", x.tick(60), 1);
        alarm(x, 60, 4, 5);
        t.run(t.row(t.bind(0, t.call(0)), t.call(0)));
        alarm(x, 0, 4, 2);
    }

    /** First it reckons, then it comes around. */
    private static void aroundAndReckoned() {
        StepRows x = new StepRows();
        Teller t = new Teller(x);
        int division = t.div(t.num(1), t.num(0));
        t.run(t.repeats(60, t.limit(division, t.pause(1), t.pause(1))));
        alarm(x, 0, 1, 121);
        StepRows y = new StepRows();
        Teller u = new Teller(y);
        u.run(u.repeats(60, u.call(0)));
        alarm(y, 0, 3, 120);
        u.run(u.repeats(60, u.repeat(u.num(0), u.count(0))));
        due.is("REPEAT of 0 does nothing", y.tick(1), 0);
        u.run(u.repeats(60, u.limit(u.num(0), u.count(0), u.count(1))));
        due.is("LIMIT that does c", y.tick(1), 0);
        due.is("value(1)", y.value(1), 1);
    }

    private static int sides(Teller t, int times, int wait) {
        int all = wait;
        for (int k = 0; k < times; k++) {
            all = k % 2 == 0 ? t.side(wait, all) : t.side(all, wait);
        }
        return all;
    }

    private static void branches() {
        StepRows x = new StepRows();
        Teller t = new Teller(x);
        int wait = t.pause(1);
        t.run(sides(t, 49, wait));
        due.is("49 SIDEs: 99 branches", x.tick(1), 1);
        due.is("50 of them stand", x.step(49) >= 0, true);
        due.is("not more", x.step(50), -1);
        due.is("tick(1)", x.tick(1), 0);
        StepRows y = new StepRows();
        Teller u = new Teller(y);
        int right = u.pause(1);
        for (int k = 0; k < 50; k++) {
            right = u.side(u.call(7), right);
        }
        u.run(u.row(u.bind(7, u.pause(9)), right));
        // 0 ROW 1 BIND 2 WAIT 3, 4 SIDE 5 CALL 6 SIDE ..: the 50th SIDE
        alarm(y, 0, 4, 4 + 2 * 49);
    }

    private static void branchesOver() {
        StepRows x = new StepRows();
        Teller t = new Teller(x);
        int wait = t.pause(1);
        int many = sides(t, 24, wait);
        t.run(t.side(many, many));
        due.is("24, 24 and 1", x.tick(1), 1);
        due.is("tick(1)", x.tick(1), 0);
        int three = t.side(many, t.side(many, t.pause(0)));
        t.run(three);
        due.is("24, 24 and 2", x.tick(1), 2);
        t.run(t.repeat(t.num(50), t.side(wait, wait)));
        due.is("a SIDE that is over does not count", x.tick(51), 0);
        x.signal(0, 1);
        t.run(t.repeat(t.num(2), t.row(t.let(0, t.num(1)), t.limit(t.op(5, t.val(0), t.num(1)),
            t.side(t.row(t.pause(1), t.let(0, t.num(0))), t.side(many, t.side(many, t.pause(-1)))), t.pause(1)))));
        due.is("24, 24 and 3", x.tick(1), 2);
        int forty = sides(t, 40, t.pause(3));
        t.run(t.repeat(t.num(3), t.limit(t.sig(0), forty, t.side(wait, t.side(wait, wait)))));
        due.is("40", x.tick(1), 1);
        x.signal(0, 0);
        due.is("40 that are gone, and 2", x.tick(1), 1);
        due.is("three stand", x.step(2) >= 0 && x.step(3) < 0, true);
        x.signal(0, 1);
        due.is("40 again", x.tick(1), 1);
        due.is("41 stand", x.step(40) >= 0 && x.step(41) < 0, true);
    }
}
