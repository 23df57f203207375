import java.lang.reflect.Method;
import java.lang.reflect.Modifier;
import java.util.Set;
import java.util.TreeSet;

/** What stands before the document's Terms and behind its promises. */
final class UseBounds {
    private static final int NONE = Asked.NONE;
    private static final int FULL = Asked.FULL;
    private static final String WHAT = "What it is";
    private static final String FACE = "The public face";
    private static final String NOT = "Not promised";

    private final Sentences s;
    private final Due due;

    UseBounds(Sentences s, Due due) {
        this.s = s;
        this.due = due;
    }

    void all() {
        allInOne();
        lastOf512();
        face();
        nothingBeyond();
        s.leads(NOT, "How the state is held inside the object is free, as are the speed of each call, the text of"
            + " toString and the behaviour of equals and hashCode. Use of one object from several threads at once"
            + " is not promised to be safe.");
    }

    /** One run with all that the first sentence names. */
    private void allInOne() {
        Asked q = s.stands(WHAT, "Step programs laid out as rows of small functions: branches with places of their"
            + " own, limits as guards, ramps by what is left, calls that are bound, runs that are saved and put back"
            + " at any second, editions that change at the end of a phase.");
        Teller t = q.t;
        int guarded = t.limit(t.sig(0), t.ramp(0, t.num(10), t.num(4)), t.pause(3));
        int both = t.side(guarded, t.row(t.call(5), t.call(5)));
        int first = t.make(t.row(t.bind(5, t.row(t.count(0), t.pause(2))), t.phase(both), t.out(1, t.num(1))));
        int other = t.make(t.row(t.phase(t.pause(9)), t.out(1, t.num(2)), t.pause(1)));
        q.signal(0, 1);
        q.runs(first, 2, 1);
        q.outputs(2);
        q.values(1);
        // 0 ROW, 1 BIND, 2 ROW, 3 LET, 4 +, 5 value, 6 number, 7 WAIT, 8 number, 9 ROW, 10 PHASE, 11 SIDE,
        // 12 LIMIT, 13 signal, 14 RAMP
        q.steps(14, 7);
        q.save(0);
        q.signal(0, 0);
        q.swap(other, 0);
        q.tick(1, 1);
        q.outputs(2);
        // 15 and 16 the RAMP's numbers, 17 the LIMIT's WAIT
        q.steps(17, 7);
        q.values(2);
        q.save(1);
        q.tick(2, 1);
        q.steps(17);
        q.tick(1, 1);
        q.outputs(2, 2);
        q.told(1, 1);
        q.told(2, other);
        q.tick(1, 0);
        q.back(0, true);
        q.signal(0, 1);
        q.tick(2, 1);
        q.outputs(7);
        q.tick(1, 0);
        q.outputs(10, 1);
        q.told(2, first);
        q.back(1, true);
        q.told(0, 3);
        q.tick(3, 1);
        q.outputs(2, 2);
    }

    /** Whatever an object was used for, its 512th call answers as the first ones do. */
    private void lastOf512() {
        Asked q = s.stands(WHAT, "An object is used for at most 512 calls after it has been made; what later calls"
            + " answer is free.");
        Teller t = q.t;
        int clock = t.repeat(t.num(Long.MAX_VALUE), t.row(t.count(0), t.pause(1)));
        for (int k = clock + 1; k < 300; k++) {
            q.leaf(0, k, k);
        }
        q.leaf(0, 0, FULL);
        for (int k = 0; k < 20; k++) {
            q.make(clock, k);
        }
        q.make(clock, FULL);
        q.start(19);
        for (int k = 0; k < 8; k++) {
            q.save(k);
        }
        q.save(FULL);
        long seconds = 0;
        while (q.calls() < 511) {
            q.tick(10000, 1);
            seconds += 10000;
        }
        q.value(0, seconds);
        due.is("calls of the object", q.calls(), 512);
    }

    /** The document's lines without the names of parameters are what Java itself says of the class. */
    private void face() {
        s.leads(FACE, "public final class StepRows {");
        due.is("public and final", StepRows.class.getModifiers(), Modifier.PUBLIC | Modifier.FINAL);
        s.leads(FACE, "public static final int NONE = -1; public static final int FULL = -2;");
        due.is("NONE", StepRows.NONE, -1);
        due.is("FULL", StepRows.FULL, -2);
        s.leads(FACE, "public StepRows();");
        due.is("constructors", StepRows.class.getConstructors().length, 1);
        due.is("without parameters", StepRows.class.getConstructors()[0].getParameterCount(), 0);
        Set<String> written = new TreeSet<>();
        for (String line : s.text(FACE).split("(?<=;) ")) {
            if (line.matches("public (int|long|boolean) .*;")) {
                s.leads(FACE, line);
                written.add(line.replaceAll("(int|long) \\w+(?=[,)])", "$1").replace(", ", ",").replace(";", ""));
            }
        }
        Set<String> there = new TreeSet<>();
        for (Method method : StepRows.class.getDeclaredMethods()) {
            if (!Modifier.isPrivate(method.getModifiers())) {
                there.add(method.toString().replace("StepRows.", "").replace("java.lang.", ""));
            }
        }
        due.is("methods of the document", written.size(), 16);
        due.is("the class has " + there + ", the document " + written, there.equals(written), true);
    }

    /** Calls that only ask change nothing, and neither do those that are refused. */
    private void nothingBeyond() {
        Asked q = s.stands(NOT, "Nothing is promised beyond the answers and state changes described above, and nothing"
            + " about an object after its 512th call.");
        Teller t = q.t;
        int both = t.side(t.ramp(0, t.num(9), t.num(3)), t.row(t.count(0), t.pause(2), t.count(1)));
        int program = t.make(t.row(t.phase(both), t.out(1, t.div(t.num(1), t.sig(0)))));
        q.runs(program, 2, 1);
        q.swap(program, 0);
        q.save(0);
        String before = q.look();
        q.look();
        q.shared(program, program, true);
        q.table(9, 89);
        q.tableThrows(10);
        q.tick(0, 1);
        q.tick(-1, NONE);
        q.tick(10001, NONE);
        q.leaf(3, 0, NONE);
        q.node(22, 0, 0, 0, NONE);
        q.make(0, NONE);
        q.make(program, NONE);
        q.signal(16, 5, false);
        q.start(1, NONE);
        q.back(1, false);
        q.swap(1, 1);
        q.save(1);
        q.looks(before);
        // signal 0 is 0, and the OUT divides by it
        q.tick(5, 2);
        q.told(1, 1);
        q.told(3, 0);
        q.back(0, true);
        q.looks(before);
        q.back(1, true);
        q.looks(before);
    }
}
