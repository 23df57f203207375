import java.util.Arrays;

/**
 * Step programs laid out as rows: what stands at each place, and what comes when it is over.
 * A run is a tree of frames over such rows, walked without recursion.
 */
public final class StepRows {
    public static final int NONE = -1;
    public static final int FULL = -2;

    private static final int MOST_NODES = 300;
    private static final int MOST_PLACES = 500;
    private static final int MOST_PROGRAMS = 20;
    private static final int MOST_SAVED = 8;
    private static final int MOST_SECONDS = 10000;
    private static final int MOST_BEGUN = 500;
    private static final int MOST_AROUND = 60;
    private static final int MOST_BRANCHES = 100;
    private static final int FEW_FRAMES = 16;
    /** Far above the steps that one second can take: an end for loops that the limits above end. */
    private static final int MANY = 1000000;

    private static final int SIGNALS = 16;
    private static final int VALUES = 16;
    private static final int OUTPUTS = 8;
    private static final int NAMES = 8;

    private static final int ADD = 0;
    private static final int SUBTRACT = 1;
    private static final int MULTIPLY = 2;
    private static final int DIVIDE = 3;
    private static final int LESS = 4;
    private static final int EQUAL = 5;
    private static final int LOOK_UP = 6;
    private static final int OUT = 10;
    private static final int LET = 11;
    private static final int WAIT = 12;
    private static final int RAMP = 13;
    private static final int ROW = 14;
    private static final int IF = 15;
    private static final int LIMIT = 16;
    private static final int REPEAT = 17;
    private static final int SIDE = 18;
    private static final int CALL = 19;
    private static final int BIND = 20;
    private static final int PHASE = 21;
    private static final int NODE_KINDS = 22;
    /** Leaves are told by kinds of their own; here they stand behind the kinds of nodes. */
    private static final int NUMBER = 30;
    private static final int SIGNAL = 31;
    private static final int VALUE = 32;
    /** A frame whose statement begins as soon as its branch goes on. */
    private static final int TO_BEGIN = 40;

    private static final int NOT_NAMED = 0;
    private static final int EXPRESSION = 1;
    private static final int STATEMENT = 2;
    private static final int STATEMENT_OR_NONE = 3;
    private static final int NO_OF_OUTPUT = 4;
    private static final int NO_OF_VALUE = 5;
    private static final int NO_OF_NAME = 6;
    private static final int PARTS = 3;
    /** What the parts of each kind of node must be, a line for each kind from 0 to 21. */
    private static final int[] WANTED = {
        EXPRESSION, EXPRESSION, NOT_NAMED,
        EXPRESSION, EXPRESSION, NOT_NAMED,
        EXPRESSION, EXPRESSION, NOT_NAMED,
        EXPRESSION, EXPRESSION, NOT_NAMED,
        EXPRESSION, EXPRESSION, NOT_NAMED,
        EXPRESSION, EXPRESSION, NOT_NAMED,
        EXPRESSION, NOT_NAMED, NOT_NAMED,
        NOT_NAMED, NOT_NAMED, NOT_NAMED,
        NOT_NAMED, NOT_NAMED, NOT_NAMED,
        NOT_NAMED, NOT_NAMED, NOT_NAMED,
        NO_OF_OUTPUT, EXPRESSION, NOT_NAMED,
        NO_OF_VALUE, EXPRESSION, NOT_NAMED,
        EXPRESSION, NOT_NAMED, NOT_NAMED,
        NO_OF_OUTPUT, EXPRESSION, EXPRESSION,
        STATEMENT, STATEMENT, NOT_NAMED,
        EXPRESSION, STATEMENT, STATEMENT_OR_NONE,
        EXPRESSION, STATEMENT, STATEMENT,
        EXPRESSION, STATEMENT, NOT_NAMED,
        STATEMENT, STATEMENT, NOT_NAMED,
        NO_OF_NAME, NOT_NAMED, NOT_NAMED,
        NO_OF_NAME, STATEMENT, NOT_NAMED,
        STATEMENT, NOT_NAMED, NOT_NAMED,
    };

    private static final int[] TABLE = {1, 2, 3, 5, 8, 13, 21, 34, 55, 89};

    /** How a run stands, in tick's own answers. */
    private static final int ENDED = 0;
    private static final int GOES_ON = 1;
    private static final int HELD = 2;
    private static final int ABSENT = 3;

    private static final int FAULT_DIVISION = 1;
    private static final int FAULT_TABLE = 2;
    private static final int FAULT_NAME = 3;
    private static final int FAULT_TOO_MUCH = 4;

    /** What a walker's small function answers when its branch does no more in this second. */
    private static final int STANDS = -MANY;

    private final Nodes nodes;
    private final Layout layout;
    private final Rows[] programs;
    private int programCount;
    private final long[] signals;
    private final Run run;
    private final Walker walker;
    private final Run[] savedRuns;
    private int savedCount;

    public StepRows() {
        nodes = new Nodes();
        layout = new Layout(nodes);
        programs = new Rows[MOST_PROGRAMS];
        signals = new long[SIGNALS];
        run = new Run(FEW_FRAMES);
        walker = new Walker(run, signals);
        savedRuns = new Run[MOST_SAVED];
    }

    public int leaf(int kind, long v) {
        return nodes.addLeaf(kind, v);
    }

    public int node(int what, int a, int b, int c) {
        return nodes.addNode(what, a, b, c);
    }

    public int make(int root) {
        if (!nodes.isStatement(root) || nodes.size[root] > MOST_PLACES) {
            return NONE;
        }
        if (programCount >= MOST_PROGRAMS) {
            return FULL;
        }
        layout.layOut(root);
        programs[programCount] = keptRows(layout.rows);
        programCount++;
        return programCount - 1;
    }

    public boolean signal(int k, long v) {
        if (k < 0 || k >= SIGNALS) {
            return false;
        }
        signals[k] = v;
        return true;
    }

    public int start(int program) {
        if (!isProgram(program)) {
            return NONE;
        }
        run.beginIn(programs[program]);
        return 0;
    }

    public int tick(int seconds) {
        if (seconds < 0 || seconds > MOST_SECONDS) {
            return NONE;
        }
        for (int done = 0; done < seconds && run.goesOn(); done++) {
            walker.lookAtLimits();
            walker.goOn();
            run.second++;
        }
        return run.state;
    }

    public long output(int k) {
        return k < 0 || k >= OUTPUTS ? 0 : run.outputs[k];
    }

    public int step(int branch) {
        if (branch < 0 || !run.goesOn()) {
            return NONE;
        }
        return run.frames.standingPlace(branch);
    }

    public int alarm(int k, int what) {
        if (k != 0 || run.state != HELD) {
            return NONE;
        }
        switch (what) {
            case 0:
                return run.alarmSecond;
            case 1:
                return run.alarmKind;
            case 2:
                return run.alarmPlace;
            default:
                return NONE;
        }
    }

    public int save() {
        if (run.state == ABSENT) {
            return NONE;
        }
        if (savedCount >= MOST_SAVED) {
            return FULL;
        }
        Run copy = new Run(run.frames.used);
        copy.become(run);
        savedRuns[savedCount] = copy;
        savedCount++;
        return savedCount - 1;
    }

    public boolean back(int saved) {
        if (saved < 0 || saved >= savedCount) {
            return false;
        }
        run.become(savedRuns[saved]);
        return true;
    }

    public int swap(int program) {
        if (!isProgram(program) || !run.goesOn()) {
            return 1;
        }
        run.waiting = programs[program];
        return 0;
    }

    public long value(int name) {
        return name < 0 || name >= VALUES ? 0 : run.values[name];
    }

    public boolean shared(int a, int b) {
        return isProgram(a) && isProgram(b) && programs[a].program == programs[b].program;
    }

    public int table(int i) throws IndexOutOfBoundsException {
        if (i < 0 || i >= TABLE.length) {
            throw new IndexOutOfBoundsException("the TABLE has numbers 0 to 9");
        }
        return TABLE[i];
    }

    public int told(int what) {
        switch (what) {
            case 0:
                return run.second;
            case 1:
                return run.phases;
            case 2:
                return run.rows == null ? NONE : run.rows.program;
            case 3:
                return run.waiting == null ? 0 : 1;
            default:
                return NONE;
        }
    }

    private boolean isProgram(int program) {
        return program >= 0 && program < programCount;
    }

    /** The rows of an equal program, or else a copy: the layout's own rows are written over. */
    private Rows keptRows(Rows fresh) {
        for (int k = 0; k < programCount; k++) {
            if (programs[k].isSameAs(fresh)) {
                return programs[k];
            }
        }
        return fresh.copyFor(programCount);
    }

    /** The leaves and nodes, as they were told. */
    private static final class Nodes {
        final int[] kind = new int[MOST_NODES];
        final int[] parts = new int[MOST_NODES * PARTS];
        final long[] leafNumber = new long[MOST_NODES];
        /** Places of the tree below, no higher than one too many: a node told often doubles them. */
        final int[] size = new int[MOST_NODES];
        int count;

        int addLeaf(int leafKind, long number) {
            if (leafKind < 0 || leafKind > VALUE - NUMBER) {
                return NONE;
            }
            int newKind = NUMBER + leafKind;
            if (newKind != NUMBER && (number < 0 || number >= (newKind == SIGNAL ? SIGNALS : VALUES))) {
                return NONE;
            }
            if (count >= MOST_NODES) {
                return FULL;
            }
            kind[count] = newKind;
            leafNumber[count] = number;
            size[count] = 1;
            count++;
            return count - 1;
        }

        int addNode(int what, int a, int b, int c) {
            if (what < 0 || what >= NODE_KINDS || wanted(what, 0) == NOT_NAMED) {
                return NONE;
            }
            if (!fits(wanted(what, 0), a) || !fits(wanted(what, 1), b) || !fits(wanted(what, 2), c)) {
                return NONE;
            }
            if (count >= MOST_NODES) {
                return FULL;
            }
            kind[count] = what;
            parts[count * PARTS] = a;
            parts[count * PARTS + 1] = b;
            parts[count * PARTS + 2] = c;
            size[count] = sizeWithParts(count);
            count++;
            return count - 1;
        }

        boolean isExpression(int node) {
            return isTold(node) && (kind[node] < OUT || kind[node] >= NUMBER);
        }

        boolean isStatement(int node) {
            return isTold(node) && kind[node] >= OUT && kind[node] < NODE_KINDS;
        }

        /** Whether a part has places of its own. */
        boolean hasPlaces(int node, int part) {
            int want = wanted(kind[node], part);
            if (want == STATEMENT_OR_NONE) {
                return parts[node * PARTS + part] != NONE;
            }
            return want == EXPRESSION || want == STATEMENT;
        }

        /** What is told of a node beside its parts; of an IF, whether it has an else. */
        long numberOf(int node) {
            switch (kind[node]) {
                case OUT:
                case LET:
                case RAMP:
                case CALL:
                case BIND:
                    return parts[node * PARTS];
                case IF:
                    return hasPlaces(node, 2) ? 1 : 0;
                default:
                    return leafNumber[node];
            }
        }

        private boolean isTold(int node) {
            return node >= 0 && node < count;
        }

        private int wanted(int what, int part) {
            return what < NODE_KINDS ? WANTED[what * PARTS + part] : NOT_NAMED;
        }

        private boolean fits(int want, int part) {
            switch (want) {
                case EXPRESSION:
                    return isExpression(part);
                case STATEMENT:
                    return isStatement(part);
                case STATEMENT_OR_NONE:
                    return part == NONE || isStatement(part);
                case NO_OF_OUTPUT:
                    return part >= 0 && part < OUTPUTS;
                case NO_OF_NAME:
                    return part >= 0 && part < NAMES;
                case NO_OF_VALUE:
                    return part >= 0 && part < VALUES;
                default:
                    return true;
            }
        }

        private int sizeWithParts(int node) {
            int places = 1;
            for (int part = 0; part < PARTS; part++) {
                if (hasPlaces(node, part)) {
                    places += size[parts[node * PARTS + part]];
                }
            }
            return Math.min(places, MOST_PLACES + 1);
        }
    }

    /** A program, place by place. It does not change once it is kept. */
    private static final class Rows {
        final int[] kind;
        final long[] number;
        final int[] size;
        /** When the statement is over: the place that begins, or ~p: p's part is over (~count: all is). */
        final int[] then;
        /** Where the place stands when parts come before what they are parts of. */
        final int[] rank;
        final int[] byRank;
        final int[] phases;
        int count;
        int phaseCount;
        /** The first program that has these rows. */
        int program;

        Rows(int places, int mostPhases) {
            kind = new int[places];
            number = new long[places];
            size = new int[places];
            then = new int[places];
            rank = new int[places];
            byRank = new int[places];
            phases = new int[mostPhases];
        }

        int secondPart(int place) {
            return place + 1 + size[place + 1];
        }

        int thirdPart(int place) {
            int second = secondPart(place);
            return second + size[second];
        }

        /** Kinds and numbers tell the parts, too: of an IF, the number says whether it has an else. */
        boolean isSameAs(Rows other) {
            if (count != other.count) {
                return false;
            }
            for (int place = 0; place < count; place++) {
                if (kind[place] != other.kind[place] || number[place] != other.number[place]) {
                    return false;
                }
            }
            return true;
        }

        Rows copyFor(int newProgram) {
            Rows copy = new Rows(count, phaseCount);
            System.arraycopy(kind, 0, copy.kind, 0, count);
            System.arraycopy(number, 0, copy.number, 0, count);
            System.arraycopy(size, 0, copy.size, 0, count);
            System.arraycopy(then, 0, copy.then, 0, count);
            System.arraycopy(rank, 0, copy.rank, 0, count);
            System.arraycopy(byRank, 0, copy.byRank, 0, count);
            System.arraycopy(phases, 0, copy.phases, 0, phaseCount);
            copy.count = count;
            copy.phaseCount = phaseCount;
            copy.program = newProgram;
            return copy;
        }
    }

    /** Lays a statement out in rows. Every program goes through the same rows, so a try costs no room. */
    private static final class Layout {
        final Nodes nodes;
        final Rows rows = new Rows(MOST_PLACES, MOST_PLACES);
        private final int[] openNodes = new int[MOST_PLACES];
        private final int[] openDepths = new int[MOST_PLACES];
        private final boolean[] byRowsAlone = new boolean[MOST_PLACES];
        private int open;

        Layout(Nodes toldNodes) {
            nodes = toldNodes;
        }

        /** The root has no more than MOST_PLACES places: what is opened becomes one place each. */
        void layOut(int root) {
            rows.count = 0;
            open = 0;
            push(root, 0);
            for (int place = 0; place < MOST_PLACES && open > 0; place++) {
                open--;
                layPlace(openNodes[open], openDepths[open]);
            }
            rows.phaseCount = 0;
            rows.then[0] = ~rows.count;
            for (int place = 0; place < rows.count; place++) {
                tieParts(place);
            }
        }

        private void push(int node, int depth) {
            if (open < MOST_PLACES) {
                openNodes[open] = node;
                openDepths[open] = depth;
                open++;
            }
        }

        private void layPlace(int node, int depth) {
            int place = rows.count;
            rows.kind[place] = nodes.kind[node];
            rows.number[place] = nodes.numberOf(node);
            rows.size[place] = nodes.size[node];
            rows.rank[place] = place + nodes.size[node] - 1 - depth;
            rows.byRank[rows.rank[place]] = place;
            byRowsAlone[place] = place == 0;
            rows.count++;
            for (int part = PARTS - 1; part >= 0; part--) {
                if (nodes.hasPlaces(node, part)) {
                    push(nodes.parts[node * PARTS + part], depth + 1);
                }
            }
        }

        /** Says of a statement's parts what comes when they are over. */
        private void tieParts(int place) {
            int[] then = rows.then;
            switch (rows.kind[place]) {
                case ROW:
                    then[place + 1] = rows.secondPart(place);
                    then[rows.secondPart(place)] = then[place];
                    byRowsAlone[place + 1] = byRowsAlone[place];
                    byRowsAlone[rows.secondPart(place)] = byRowsAlone[place];
                    break;
                case IF:
                    then[rows.secondPart(place)] = then[place];
                    if (rows.number[place] != 0) {
                        then[rows.thirdPart(place)] = then[place];
                    }
                    break;
                case LIMIT:
                    then[rows.secondPart(place)] = ~place;
                    then[rows.thirdPart(place)] = then[place];
                    break;
                case REPEAT:
                    then[rows.secondPart(place)] = ~place;
                    break;
                case SIDE:
                    then[place + 1] = ~place;
                    then[rows.secondPart(place)] = ~place;
                    break;
                case BIND:
                    then[place + 1] = ~place;
                    break;
                case PHASE:
                    then[place + 1] = byRowsAlone[place] ? ~place : then[place];
                    addPhase(place);
                    break;
                default:
                    break;
            }
        }

        private void addPhase(int place) {
            if (byRowsAlone[place]) {
                rows.phases[rows.phaseCount] = place;
                rows.phaseCount++;
            }
        }
    }

    /**
     * What a run is in the midst of: a tree of LIMITs, REPEATs, CALLs and SIDEs that are around
     * something, with a leaf for each branch. Only a SIDE has a right; what is gone is used again.
     */
    private static final class Frames {
        int[] kind;
        int[] place;
        int[] up;
        int[] left;
        int[] right;
        /** How many frames are around one another, this one too. */
        int[] depth;
        int[] since;
        /** Seconds that a WAIT or RAMP takes; times that a REPEAT has to go, this one too. */
        long[] amount;
        long[] from;
        long[] goal;
        int top;
        int free;
        int used;
        int sides;

        Frames(int room) {
            kind = new int[room];
            place = new int[room];
            up = new int[room];
            left = new int[room];
            right = new int[room];
            depth = new int[room];
            since = new int[room];
            amount = new long[room];
            from = new long[room];
            goal = new long[room];
            top = NONE;
            free = NONE;
        }

        void clearAll() {
            top = NONE;
            free = NONE;
            used = 0;
            sides = 0;
        }

        int add(int newKind, int newPlace, int around, boolean onRight) {
            if (free == NONE && used >= kind.length) {
                growTo(used * 2 + 1);
            }
            int frame = free == NONE ? used : free;
            if (free == NONE) {
                used++;
            } else {
                free = up[frame];
            }
            kind[frame] = newKind;
            place[frame] = newPlace;
            up[frame] = around;
            left[frame] = NONE;
            right[frame] = NONE;
            depth[frame] = depthOf(around) + 1;
            if (newKind == SIDE) {
                sides++;
            }
            if (around == NONE) {
                top = frame;
            } else if (onRight) {
                right[around] = frame;
            } else {
                left[around] = frame;
            }
            return frame;
        }

        int depthOf(int frame) {
            return frame == NONE ? 0 : depth[frame];
        }

        /** Takes a frame away that has nothing below it. */
        void remove(int frame) {
            int around = up[frame];
            if (around == NONE) {
                top = NONE;
            } else if (left[around] == frame) {
                left[around] = NONE;
            } else {
                right[around] = NONE;
            }
            if (kind[frame] == SIDE) {
                sides--;
            }
            up[frame] = free;
            free = frame;
        }

        void removeBelow(int frame) {
            int at = frame;
            for (int n = 0; n < MANY; n++) {
                int below = firstBelow(at);
                if (below != NONE) {
                    at = below;
                } else if (at == frame) {
                    break;
                } else {
                    int around = up[at];
                    remove(at);
                    at = around;
                }
            }
        }

        /** The next frame when those around come before those in them, and left before right. */
        int following(int frame) {
            int below = firstBelow(frame);
            return below == NONE ? toTheRight(frame) : below;
        }

        /** The nearest frame that stands to the right of all that is below this one. */
        int toTheRight(int frame) {
            int at = frame;
            for (int n = 0; n <= MOST_AROUND && up[at] != NONE; n++) {
                int around = up[at];
                if (left[around] == at && right[around] != NONE) {
                    return right[around];
                }
                at = around;
            }
            return NONE;
        }

        /** The leftmost branch's leaf of those below a frame. */
        int leafBelow(int frame) {
            int at = frame;
            for (int n = 0; n <= MOST_AROUND && at != NONE; n++) {
                int below = firstBelow(at);
                if (below == NONE) {
                    return at;
                }
                at = below;
            }
            return at;
        }

        int standingPlace(int branch) {
            int before = branch;
            int leaf = leafBelow(top);
            for (int n = 0; n <= MOST_BRANCHES && leaf != NONE; n++) {
                boolean stands = kind[leaf] != TO_BEGIN;
                if (stands && before == 0) {
                    return place[leaf];
                }
                before -= stands ? 1 : 0;
                leaf = leafBelow(toTheRight(leaf));
            }
            return NONE;
        }

        void become(Frames other) {
            if (kind.length < other.used) {
                growTo(other.used);
            }
            System.arraycopy(other.kind, 0, kind, 0, other.used);
            System.arraycopy(other.place, 0, place, 0, other.used);
            System.arraycopy(other.up, 0, up, 0, other.used);
            System.arraycopy(other.left, 0, left, 0, other.used);
            System.arraycopy(other.right, 0, right, 0, other.used);
            System.arraycopy(other.depth, 0, depth, 0, other.used);
            System.arraycopy(other.since, 0, since, 0, other.used);
            System.arraycopy(other.amount, 0, amount, 0, other.used);
            System.arraycopy(other.from, 0, from, 0, other.used);
            System.arraycopy(other.goal, 0, goal, 0, other.used);
            top = other.top;
            free = other.free;
            used = other.used;
            sides = other.sides;
        }

        private int firstBelow(int frame) {
            return left[frame] == NONE ? right[frame] : left[frame];
        }

        private void growTo(int room) {
            kind = Arrays.copyOf(kind, room);
            place = Arrays.copyOf(place, room);
            up = Arrays.copyOf(up, room);
            left = Arrays.copyOf(left, room);
            right = Arrays.copyOf(right, room);
            depth = Arrays.copyOf(depth, room);
            since = Arrays.copyOf(since, room);
            amount = Arrays.copyOf(amount, room);
            from = Arrays.copyOf(from, room);
            goal = Arrays.copyOf(goal, room);
        }
    }

    /** All that is saved and put back. */
    private static final class Run {
        int state = ABSENT;
        Rows rows;
        Rows waiting;
        int second;
        int phases;
        int alarmSecond;
        int alarmKind;
        int alarmPlace;
        final long[] values = new long[VALUES];
        final long[] outputs = new long[OUTPUTS];
        /** The place of the statement that a name means. */
        final int[] names = new int[NAMES];
        final Frames frames;

        Run(int room) {
            frames = new Frames(room);
        }

        boolean goesOn() {
            return state == GOES_ON;
        }

        void beginIn(Rows program) {
            state = GOES_ON;
            rows = program;
            waiting = null;
            second = 0;
            phases = 0;
            Arrays.fill(values, 0);
            Arrays.fill(outputs, 0);
            Arrays.fill(names, NONE);
            frames.clearAll();
            frames.add(TO_BEGIN, 0, NONE, false);
        }

        void hold(int fault, int place) {
            state = HELD;
            alarmSecond = second;
            alarmKind = fault;
            alarmPlace = place;
        }

        void goOverToWaiting() {
            rows = waiting;
            waiting = null;
            Arrays.fill(names, NONE);
        }

        void become(Run other) {
            state = other.state;
            rows = other.rows;
            waiting = other.waiting;
            second = other.second;
            phases = other.phases;
            alarmSecond = other.alarmSecond;
            alarmKind = other.alarmKind;
            alarmPlace = other.alarmPlace;
            System.arraycopy(other.values, 0, values, 0, VALUES);
            System.arraycopy(other.outputs, 0, outputs, 0, OUTPUTS);
            System.arraycopy(other.names, 0, names, 0, NAMES);
            frames.become(other.frames);
        }
    }

    /**
     * Takes the run through a second: first the limits, then the branches. Its small functions answer
     * what comes next: a place that begins, ~p when p's part is over, or STANDS, and then the branch
     * at nextLeaf goes on.
     */
    private static final class Walker {
        private final Run run;
        private final Frames frames;
        private final long[] signals;
        private final long[] stack = new long[MOST_PLACES];
        /** The innermost frame around what is done now. */
        private int around;
        private int nextLeaf;
        private int begun;

        Walker(Run theRun, long[] theSignals) {
            run = theRun;
            frames = theRun.frames;
            signals = theSignals;
        }

        void lookAtLimits() {
            int frame = frames.top;
            for (int n = 0; n < MANY && frame != NONE && run.goesOn(); n++) {
                if (frames.kind[frame] == LIMIT) {
                    lookAgain(frame);
                }
                frame = frames.following(frame);
            }
        }

        private void lookAgain(int frame) {
            int place = frames.place[frame];
            long guard = reckon(place + 1);
            if (guard == 0 && run.goesOn()) {
                frames.removeBelow(frame);
                frames.kind[frame] = TO_BEGIN;
                frames.place[frame] = run.rows.thirdPart(place);
            }
        }

        void goOn() {
            begun = 0;
            nextLeaf = frames.leafBelow(frames.top);
            int next = STANDS;
            for (int n = 0; n < MANY && run.goesOn(); n++) {
                if (next >= 0) {
                    next = begin(next);
                } else if (next != STANDS) {
                    next = endPart(~next);
                } else if (nextLeaf != NONE) {
                    next = visit(nextLeaf);
                } else {
                    break;
                }
            }
        }

        private int visit(int leaf) {
            int place = frames.place[leaf];
            around = frames.up[leaf];
            if (frames.kind[leaf] == TO_BEGIN) {
                frames.remove(leaf);
                return place;
            }
            long gone = run.second - frames.since[leaf];
            if (frames.kind[leaf] == RAMP) {
                moveRamp(leaf, gone);
            }
            if (gone < frames.amount[leaf]) {
                return standAt(leaf);
            }
            frames.remove(leaf);
            return run.rows.then[place];
        }

        private void moveRamp(int leaf, long gone) {
            long from = frames.from[leaf];
            long goal = frames.goal[leaf];
            long seconds = frames.amount[leaf];
            long now = gone < seconds && seconds > 0 ? from + (goal - from) * gone / seconds : goal;
            run.outputs[(int) run.rows.number[frames.place[leaf]]] = now;
        }

        private int standAt(int leaf) {
            nextLeaf = frames.leafBelow(frames.toTheRight(leaf));
            return STANDS;
        }

        private int begin(int place) {
            Rows rows = run.rows;
            int at = place;
            while (rows.kind[at] == ROW && at + 1 < rows.count) {
                at++;
            }
            begun++;
            if (begun > MOST_BEGUN) {
                return fault(FAULT_TOO_MUCH, at);
            }
            switch (rows.kind[at]) {
                case OUT:
                    return put(run.outputs, at);
                case LET:
                    return put(run.values, at);
                case WAIT:
                    return beginWait(at);
                case RAMP:
                    return beginRamp(at);
                case IF:
                    return choose(at);
                case LIMIT:
                    return beginLimit(at);
                case REPEAT:
                    return beginRepeat(at);
                case SIDE:
                    return beginSide(at);
                case CALL:
                    return call(at);
                case BIND:
                    run.names[(int) rows.number[at]] = at + 1;
                    return rows.then[at];
                default:
                    return at + 1;
            }
        }

        private int put(long[] target, int place) {
            long number = reckon(place + 1);
            if (run.goesOn()) {
                target[(int) run.rows.number[place]] = number;
            }
            return run.rows.then[place];
        }

        private int beginWait(int place) {
            long seconds = reckon(place + 1);
            if (!run.goesOn() || seconds < 1) {
                return run.rows.then[place];
            }
            return standAt(addLeaf(WAIT, place, seconds));
        }

        private int beginRamp(int place) {
            int output = (int) run.rows.number[place];
            long goal = reckon(place + 1);
            long seconds = run.goesOn() ? reckon(run.rows.secondPart(place)) : 0;
            if (!run.goesOn()) {
                return STANDS;
            }
            if (seconds < 1) {
                run.outputs[output] = goal;
                return run.rows.then[place];
            }
            int leaf = addLeaf(RAMP, place, seconds);
            frames.from[leaf] = run.outputs[output];
            frames.goal[leaf] = goal;
            return standAt(leaf);
        }

        private int addLeaf(int kind, int place, long seconds) {
            int leaf = frames.add(kind, place, around, isOnRight(place));
            frames.since[leaf] = run.second;
            frames.amount[leaf] = seconds;
            return leaf;
        }

        private int choose(int place) {
            Rows rows = run.rows;
            if (reckon(place + 1) != 0) {
                return rows.secondPart(place);
            }
            return rows.number[place] != 0 ? rows.thirdPart(place) : rows.then[place];
        }

        private int beginLimit(int place) {
            boolean kept = reckon(place + 1) != 0;
            if (!run.goesOn()) {
                return STANDS;
            }
            if (!kept) {
                return run.rows.thirdPart(place);
            }
            return comesAround(LIMIT, place) ? run.rows.secondPart(place) : STANDS;
        }

        private int beginRepeat(int place) {
            long times = reckon(place + 1);
            if (!run.goesOn() || times < 1) {
                return run.rows.then[place];
            }
            if (!comesAround(REPEAT, place)) {
                return STANDS;
            }
            frames.amount[around] = times;
            return run.rows.secondPart(place);
        }

        private int beginSide(int place) {
            if (!comesAround(SIDE, place)) {
                return STANDS;
            }
            if (1 + 2 * frames.sides > MOST_BRANCHES) {
                return fault(FAULT_TOO_MUCH, place);
            }
            nextLeaf = frames.add(TO_BEGIN, place + 1, around, false);
            frames.add(TO_BEGIN, run.rows.secondPart(place), around, true);
            return STANDS;
        }

        private int call(int place) {
            int meaning = run.names[(int) run.rows.number[place]];
            if (meaning == NONE) {
                return fault(FAULT_NAME, place);
            }
            return comesAround(CALL, place) ? meaning : STANDS;
        }

        private boolean comesAround(int kind, int place) {
            if (frames.depthOf(around) >= MOST_AROUND) {
                fault(FAULT_TOO_MUCH, place);
                return false;
            }
            around = frames.add(kind, place, around, isOnRight(place));
            return true;
        }

        /** A CALL is a frame of its own, so what hangs on a SIDE itself stands in one of its parts. */
        private boolean isOnRight(int place) {
            if (around == NONE || frames.kind[around] != SIDE) {
                return false;
            }
            return place >= run.rows.secondPart(frames.place[around]);
        }

        private int endPart(int place) {
            if (place >= run.rows.count) {
                return endRun();
            }
            switch (run.rows.kind[place]) {
                case REPEAT:
                    return endTurn(place);
                case SIDE:
                    return endBranch();
                case PHASE:
                    return endPhase(place);
                default:
                    return leave();
            }
        }

        private int endRun() {
            run.state = ENDED;
            return STANDS;
        }

        /** What is around is over: a LIMIT that did its b, a CALL whose statement is over, and so on. */
        private int leave() {
            if (around == NONE) {
                return endRun();
            }
            int frame = around;
            int place = frames.place[frame];
            around = frames.up[frame];
            frames.remove(frame);
            return run.rows.then[place];
        }

        private int endTurn(int place) {
            if (around != NONE && frames.amount[around] > 1) {
                frames.amount[around]--;
                return run.rows.secondPart(place);
            }
            return leave();
        }

        /** The left branch goes first: while it is there, it is the right one that is over now. */
        private int endBranch() {
            if (around != NONE && frames.left[around] != NONE) {
                return standAt(around);
            }
            if (around != NONE && frames.right[around] != NONE) {
                nextLeaf = frames.leafBelow(frames.right[around]);
                return STANDS;
            }
            return leave();
        }

        /** A phase stands by ROWs alone: nothing is around it, and no frame is left as it ends. */
        private int endPhase(int place) {
            run.phases++;
            if (run.waiting == null) {
                return run.rows.then[place];
            }
            run.goOverToWaiting();
            if (run.phases > run.rows.phaseCount) {
                return endRun();
            }
            return run.rows.then[run.rows.phases[run.phases - 1]];
        }

        private int fault(int kind, int place) {
            run.hold(kind, place);
            return STANDS;
        }

        /** The expression at a place, its parts first and from the left: the first fault is the one told. */
        private long reckon(int place) {
            Rows rows = run.rows;
            int last = rows.rank[place];
            int height = 0;
            for (int rank = last - rows.size[place] + 1; rank <= last && run.goesOn(); rank++) {
                int at = rows.byRank[rank];
                int kind = rows.kind[at];
                if (kind >= NUMBER && height < MOST_PLACES) {
                    stack[height] = leafNumber(kind, rows.number[at]);
                    height++;
                } else if (kind == LOOK_UP && height > 0) {
                    stack[height - 1] = lookUp(stack[height - 1], at);
                } else if (height > 1) {
                    height--;
                    stack[height - 1] = combine(at, stack[height - 1], stack[height]);
                }
            }
            return run.goesOn() ? stack[0] : 0;
        }

        private long leafNumber(int kind, long number) {
            switch (kind) {
                case SIGNAL:
                    return signals[(int) number];
                case VALUE:
                    return run.values[(int) number];
                default:
                    return number;
            }
        }

        private long lookUp(long index, int place) {
            if (index < 0 || index >= TABLE.length) {
                run.hold(FAULT_TABLE, place);
                return 0;
            }
            return TABLE[(int) index];
        }

        private long divide(int place, long a, long b) {
            if (b == 0) {
                run.hold(FAULT_DIVISION, place);
                return 0;
            }
            return a / b;
        }

        private long combine(int place, long a, long b) {
            switch (run.rows.kind[place]) {
                case ADD:
                    return a + b;
                case SUBTRACT:
                    return a - b;
                case MULTIPLY:
                    return a * b;
                case DIVIDE:
                    return divide(place, a, b);
                case LESS:
                    return a < b ? 1 : 0;
                case EQUAL:
                default:
                    return a == b ? 1 : 0;
            }
        }
    }
}
