import java.util.Arrays;

/** A statechart that is put together by calls and then run by events; DOC.md says what each call promises. */
public final class MicrostepChart {
    public static final int BAD = -1;
    public static final int FULL = -2;
    public static final int ILL = -3;
    public static final int EMPTY = -4;

    private static final int NONE = -1;

    private static final int PLAIN = 1;
    private static final int PARALLEL = 2;
    private static final int FINAL = 3;
    private static final int SHALLOW = 4;
    private static final int DEEP = 5;

    private static final int MAX_STATES = 15;
    private static final int MAX_TRANSITIONS = 20;
    private static final int MAX_ACTIONS = 32;
    private static final int VARIABLES = 4;
    private static final int MAX_EVENT = 20;
    private static final int MAX_TICKS = 50;
    private static final int MAX_LINE = 16;
    private static final int MAX_SENT = 12;
    private static final int MAX_RECORDS = 200;
    private static final int MAX_MICROSTEPS = 30;

    private static final int NO_EVENT = 0;
    private static final int DONE = 100;

    private static final int LESS = 0;
    private static final int SAME = 1;
    private static final int GREATER = 2;
    private static final int IN_STATE = 3;

    private static final int SET = 0;
    private static final int ADD = 1;
    private static final int RAISE = 2;
    private static final int SEND = 3;
    private static final int ENTRY_OF = 100;
    private static final int EXIT_OF = 200;

    private static final int ENTERED = 1000;
    private static final int LEFT = 2000;
    private static final int TAKEN = 3000;

    private static final int BUILDING = 0;
    private static final int GOING_ON = 1;
    private static final int FINISHED = 2;
    private static final int NO_FUEL = 3;
    private static final int NO_ROOM = 4;

    private final StateTree tree;
    private final TransitionTable transitions;
    private final ActionTable actions;
    private final Run run;

    public MicrostepChart() {
        tree = new StateTree();
        transitions = new TransitionTable();
        actions = new ActionTable();
        run = new Run(tree, transitions, actions);
    }

    public int state(int parent, int kind) {
        if (!isBuilding() || !tree.mayHold(parent, kind)) {
            return BAD;
        }
        if (tree.count == MAX_STATES) {
            return FULL;
        }
        return tree.add(parent, kind);
    }

    public boolean initial(int child) {
        if (!isBuilding() || !tree.isMadeState(child) || tree.kind[tree.parent[child]] != PLAIN) {
            return false;
        }
        tree.initialChild[tree.parent[child]] = child;
        return true;
    }

    public int transition(int source, int event, int target) {
        if (!isBuilding() || !maySource(source) || !mayAwait(event) || !mayTarget(target)) {
            return BAD;
        }
        if (transitions.count == MAX_TRANSITIONS) {
            return FULL;
        }
        int domain = target == NONE ? NONE : tree.nearestCompoundAbove(source, target);
        return transitions.add(source, event, target, domain);
    }

    public boolean guard(int transition, int what, int op, int value) {
        if (!isBuilding() || !transitions.has(transition) || !mayGuard(what, op, value)) {
            return false;
        }
        transitions.putGuard(transition, what, op, value);
        return true;
    }

    public boolean action(int owner, int op, int a, int b) {
        if (!isBuilding() || !mayOwn(owner) || !mayDo(op, a, b) || actions.count == MAX_ACTIONS) {
            return false;
        }
        actions.add(owner, op, a, b);
        return true;
    }

    public int begin() {
        if (!isBuilding()) {
            return BAD;
        }
        if (!tree.isWhole()) {
            return ILL;
        }
        run.open();
        run.macrostep();
        return run.microsteps;
    }

    public boolean post(int event) {
        return run.isGoingOn() && isEvent(event) && run.external.put(event);
    }

    public int step() {
        if (!run.isGoingOn()) {
            return BAD;
        }
        if (run.external.count == 0) {
            return EMPTY;
        }
        run.takeExternalEvent();
        run.macrostep();
        return run.microsteps;
    }

    public int tick(int n) {
        if (!run.isGoingOn() || n < 1 || n > MAX_TICKS) {
            return BAD;
        }
        run.advanceClock(n);
        return run.clock;
    }

    public void reset() {
        run.result = BUILDING;
    }

    public int outcome() {
        return run.result;
    }

    public int active() {
        return isBuilding() ? 0 : run.now.activeStates;
    }

    public int remembered(int history) {
        if (isBuilding() || !tree.isMade(history)) {
            return 0;
        }
        return run.memory[history];
    }

    public int variable(int v) {
        return isBuilding() || !isVariable(v) ? 0 : run.now.variables[v];
    }

    public int listed(int place) {
        return isBuilding() ? NONE : run.records.at(place);
    }

    public int waiting(int which) {
        if (which < 0 || which > 2) {
            return NONE;
        }
        if (isBuilding()) {
            return 0;
        }
        if (which == 2) {
            return run.sent.count;
        }
        return which == 0 ? run.internal.count : run.external.count;
    }

    private boolean isBuilding() {
        return run.result == BUILDING;
    }

    private boolean maySource(int source) {
        return tree.isMadeState(source) && tree.kind[source] != FINAL;
    }

    private boolean mayAwait(int event) {
        return event == NO_EVENT || isEvent(event) || tree.isMadeState(event - DONE);
    }

    private boolean mayTarget(int target) {
        return target == NONE || tree.isMade(target);
    }

    private boolean mayGuard(int what, int op, int value) {
        if (op == IN_STATE) {
            return what == 0 && tree.isMadeState(value);
        }
        return op >= LESS && op <= GREATER && isVariable(what);
    }

    private boolean mayOwn(int owner) {
        return transitions.has(owner) || tree.isMadeState(owner - ENTRY_OF) || tree.isMadeState(owner - EXIT_OF);
    }

    private static boolean mayDo(int op, int a, int b) {
        switch (op) {
            case SET:
            case ADD:
                return isVariable(a);
            case RAISE:
                return isEvent(a) && b == 0;
            case SEND:
                return isEvent(a) && b >= 0 && b <= MAX_TICKS;
            default:
                return false;
        }
    }

    private static boolean isEvent(int event) {
        return event >= 1 && event <= MAX_EVENT;
    }

    private static boolean isVariable(int v) {
        return v >= 0 && v < VARIABLES;
    }

    private static boolean isIn(int s, int states) {
        return (states >> s & 1) != 0;
    }

    /**
     * The states and histories by number. A parent is made before its children, so growing numbers go downwards in
     * the tree and falling numbers upwards. Sets of states are sums of 1 << s.
     */
    private static final class StateTree {
        final int[] kind = new int[MAX_STATES + 1];
        final int[] parent = new int[MAX_STATES + 1];
        final int[] initialChild = new int[MAX_STATES + 1];
        final int[] children = new int[MAX_STATES + 1];
        final int[] above = new int[MAX_STATES + 1];
        final int[] below = new int[MAX_STATES + 1];
        int count;

        StateTree() {
            kind[0] = PLAIN;
            parent[0] = NONE;
        }

        boolean isMade(int s) {
            return s >= 1 && s <= count;
        }

        boolean isHistory(int s) {
            return kind[s] == SHALLOW || kind[s] == DEEP;
        }

        boolean isMadeState(int s) {
            return isMade(s) && !isHistory(s);
        }

        boolean isAtomic(int s) {
            return children[s] == 0;
        }

        boolean isCompound(int s) {
            return kind[s] == PLAIN && children[s] != 0;
        }

        boolean mayHold(int parentState, int newKind) {
            if (newKind < PLAIN || newKind > DEEP || parentState < 0 || parentState > count) {
                return false;
            }
            if (kind[parentState] == PARALLEL) {
                return newKind != FINAL;
            }
            return kind[parentState] == PLAIN && (parentState != 0 || newKind <= FINAL);
        }

        int add(int parentState, int newKind) {
            count++;
            kind[count] = newKind;
            parent[count] = parentState;
            above[count] = above[parentState] | 1 << parentState;
            if (!isHistory(count)) {
                addChild(parentState, count);
            }
            return count;
        }

        private void addChild(int parentState, int child) {
            if (children[parentState] == 0) {
                initialChild[parentState] = child;
            }
            children[parentState] |= 1 << child;
            for (int s = 0; s < child; s++) {
                if (isIn(s, above[child])) {
                    below[s] |= 1 << child;
                }
            }
        }

        int nearestCompoundAbove(int source, int target) {
            int common = above[source] & above[target];
            for (int s = MAX_STATES; s >= 1; s--) {
                if (isIn(s, common) && isCompound(s)) {
                    return s;
                }
            }
            return 0;
        }

        boolean isWhole() {
            if (isAtomic(0)) {
                return false;
            }
            for (int s = 1; s <= count; s++) {
                if (kind[s] == PARALLEL && isAtomic(s)) {
                    return false;
                }
                if (isHistory(s) && isAtomic(parent[s])) {
                    return false;
                }
            }
            return true;
        }

        int atomicAmong(int states) {
            int found = 0;
            for (int s = 1; s <= count; s++) {
                if (isIn(s, states) && isAtomic(s)) {
                    found |= 1 << s;
                }
            }
            return found;
        }

        /** One pass by growing numbers is enough: what a state adds has a greater number than the state itself. */
        int completed(int states) {
            int whole = states;
            for (int s = 1; s <= count; s++) {
                if (!isIn(s, whole)) {
                    continue;
                }
                if (kind[s] == PARALLEL) {
                    whole |= children[s];
                } else if (isCompound(s) && (children[s] & whole) == 0) {
                    whole |= 1 << initialChild[s];
                }
            }
            return whole;
        }
    }

    private static final class TransitionTable {
        final int[] source = new int[MAX_TRANSITIONS];
        final int[] event = new int[MAX_TRANSITIONS];
        final int[] target = new int[MAX_TRANSITIONS];
        final int[] domain = new int[MAX_TRANSITIONS];
        final int[] guardOp = new int[MAX_TRANSITIONS];
        final int[] guardWhat = new int[MAX_TRANSITIONS];
        final int[] guardValue = new int[MAX_TRANSITIONS];
        int count;

        boolean has(int t) {
            return t >= 0 && t < count;
        }

        int add(int from, int awaited, int to, int nearest) {
            int t = count;
            source[t] = from;
            event[t] = awaited;
            target[t] = to;
            domain[t] = nearest;
            guardOp[t] = NONE;
            count++;
            return t;
        }

        void putGuard(int t, int what, int op, int value) {
            guardOp[t] = op;
            guardWhat[t] = what;
            guardValue[t] = value;
        }
    }

    private static final class ActionTable {
        final int[] owner = new int[MAX_ACTIONS];
        final int[] op = new int[MAX_ACTIONS];
        final int[] a = new int[MAX_ACTIONS];
        final int[] b = new int[MAX_ACTIONS];
        int count;

        void add(int newOwner, int newOp, int newA, int newB) {
            owner[count] = newOwner;
            op[count] = newOp;
            a[count] = newA;
            b[count] = newB;
            count++;
        }
    }

    /** Numbers in the order in which they came, as many as there is room for. */
    private static final class Line {
        final int[] items;
        int count;

        Line(int room) {
            items = new int[room];
        }

        boolean put(int item) {
            if (count == items.length) {
                return false;
            }
            items[count] = item;
            count++;
            return true;
        }

        int at(int place) {
            return place >= 0 && place < count ? items[place] : NONE;
        }

        int takeFirst() {
            if (count == 0) {
                return NONE;
            }
            int first = items[0];
            count--;
            for (int i = 0; i < count; i++) {
                items[i] = items[i + 1];
            }
            return first;
        }

        void clear() {
            count = 0;
        }
    }

    /** The sent events in the order of sending, each with the tick at which it is due. */
    private static final class SentEvents {
        final int[] event = new int[MAX_SENT];
        final int[] due = new int[MAX_SENT];
        int count;

        boolean put(int newEvent, int newDue) {
            if (count == MAX_SENT) {
                return false;
            }
            event[count] = newEvent;
            due[count] = newDue;
            count++;
            return true;
        }

        int placeOfEarliest(int clock) {
            int best = NONE;
            for (int i = 0; i < count; i++) {
                if (due[i] <= clock && (best == NONE || due[i] < due[best])) {
                    best = i;
                }
            }
            return best;
        }

        void drop(int place) {
            if (place < 0 || place >= count) {
                return;
            }
            count--;
            for (int i = place; i < count; i++) {
                event[i] = event[i + 1];
                due[i] = due[i + 1];
            }
        }
    }

    /** What guards look at. */
    private static final class Situation {
        final int[] variables = new int[VARIABLES];
        int activeStates;

        void clear() {
            Arrays.fill(variables, 0);
            activeStates = 0;
        }

        boolean satisfies(TransitionTable table, int t) {
            int value = table.guardValue[t];
            switch (table.guardOp[t]) {
                case LESS:
                    return variables[table.guardWhat[t]] < value;
                case SAME:
                    return variables[table.guardWhat[t]] == value;
                case GREATER:
                    return variables[table.guardWhat[t]] > value;
                case IN_STATE:
                    return isIn(value, activeStates);
                default:
                    return true;
            }
        }
    }

    /** Finds the transitions of a microstep: selects for an event, and keeps those that no conflict rules out. */
    private static final class Selection {
        final StateTree tree;
        final TransitionTable table;
        final Situation now;
        final int[] selected = new int[MAX_TRANSITIONS];
        final int[] kept = new int[MAX_TRANSITIONS];
        int selectedCount;
        int keptCount;

        Selection(StateTree tree, TransitionTable table, Situation now) {
            this.tree = tree;
            this.table = table;
            this.now = now;
        }

        boolean chooseFor(int event) {
            selectedCount = 0;
            keptCount = 0;
            for (int s = 1; s <= tree.count; s++) {
                if (isIn(s, now.activeStates) && tree.isAtomic(s)) {
                    select(nearestEnabled(s, event));
                }
            }
            for (int i = 0; i < selectedCount; i++) {
                keepIfAllowed(selected[i]);
            }
            return keptCount > 0;
        }

        private void select(int t) {
            if (t == NONE) {
                return;
            }
            for (int i = 0; i < selectedCount; i++) {
                if (selected[i] == t) {
                    return;
                }
            }
            selected[selectedCount] = t;
            selectedCount++;
        }

        private int nearestEnabled(int atomic, int event) {
            int path = tree.above[atomic] | 1 << atomic;
            for (int s = atomic; s >= 1; s--) {
                int t = isIn(s, path) ? leastEnabled(s, event) : NONE;
                if (t != NONE) {
                    return t;
                }
            }
            return NONE;
        }

        private int leastEnabled(int s, int event) {
            for (int t = 0; t < table.count; t++) {
                if (table.source[t] == s && table.event[t] == event && now.satisfies(table, t)) {
                    return t;
                }
            }
            return NONE;
        }

        private void keepIfAllowed(int t) {
            for (int i = 0; i < keptCount; i++) {
                if (conflict(t, kept[i]) && !outranks(t, kept[i])) {
                    return;
                }
            }
            int left = 0;
            for (int i = 0; i < keptCount; i++) {
                if (!conflict(t, kept[i])) {
                    kept[left] = kept[i];
                    left++;
                }
            }
            kept[left] = t;
            keptCount = left + 1;
        }

        private boolean conflict(int t, int other) {
            return (exitSet(t) & exitSet(other)) != 0;
        }

        private boolean outranks(int t, int other) {
            return isIn(table.source[other], tree.above[table.source[t]]);
        }

        int exitSet(int t) {
            return table.target[t] == NONE ? 0 : now.activeStates & tree.below[table.domain[t]];
        }

        int allExits() {
            int states = 0;
            for (int i = 0; i < keptCount; i++) {
                states |= exitSet(kept[i]);
            }
            return states;
        }
    }

    /** The run of a chart. After a failure nothing may change, so every part of a microstep looks at isGoingOn(). */
    private static final class Run {
        final StateTree tree;
        final TransitionTable transitions;
        final ActionTable actions;
        final Situation now = new Situation();
        final Selection selection;
        final Line internal = new Line(MAX_LINE);
        final Line external = new Line(MAX_LINE);
        final Line records = new Line(MAX_RECORDS);
        final SentEvents sent = new SentEvents();
        final int[] memory = new int[MAX_STATES + 1];
        int clock;
        int microsteps;
        int result = BUILDING;
        boolean reachedEnd;

        Run(StateTree tree, TransitionTable transitions, ActionTable actions) {
            this.tree = tree;
            this.transitions = transitions;
            this.actions = actions;
            selection = new Selection(tree, transitions, now);
        }

        boolean isGoingOn() {
            return result == GOING_ON;
        }

        void open() {
            now.clear();
            internal.clear();
            external.clear();
            records.clear();
            sent.count = 0;
            Arrays.fill(memory, 0);
            clock = 0;
            microsteps = 0;
            reachedEnd = false;
            result = GOING_ON;
            enter(tree.completed(1 << tree.initialChild[0]));
            finishIfEnded();
        }

        void takeExternalEvent() {
            records.clear();
            microsteps = 0;
            if (selection.chooseFor(external.takeFirst())) {
                microstep();
            }
        }

        /** Each round but the last does a microstep, so there are never more rounds than the fuel allows. */
        void macrostep() {
            for (int round = 0; round <= MAX_MICROSTEPS; round++) {
                if (!isGoingOn() || !chooseNext()) {
                    return;
                }
                microstep();
            }
        }

        private boolean chooseNext() {
            if (selection.chooseFor(NO_EVENT)) {
                return true;
            }
            for (int left = internal.count; left > 0; left--) {
                if (selection.chooseFor(internal.takeFirst())) {
                    return true;
                }
            }
            return false;
        }

        private void microstep() {
            if (microsteps == MAX_MICROSTEPS) {
                result = NO_FUEL;
                return;
            }
            microsteps++;
            int exits = selection.allExits();
            rememberBefore(exits);
            leave(exits);
            takeTransitions();
            enter(entrySet());
            finishIfEnded();
        }

        private void finishIfEnded() {
            if (isGoingOn() && reachedEnd) {
                result = FINISHED;
            }
        }

        private void rememberBefore(int exits) {
            for (int h = 1; h <= tree.count; h++) {
                if (!tree.isHistory(h) || !isIn(tree.parent[h], exits)) {
                    continue;
                }
                int parent = tree.parent[h];
                if (tree.kind[h] == SHALLOW) {
                    memory[h] = now.activeStates & tree.children[parent];
                } else {
                    memory[h] = tree.atomicAmong(now.activeStates & tree.below[parent]);
                }
            }
        }

        private void leave(int exits) {
            for (int s = MAX_STATES; s >= 1; s--) {
                if (isIn(s, exits)) {
                    putRecord(LEFT + s);
                    doActions(EXIT_OF + s);
                    if (!isGoingOn()) {
                        return;
                    }
                    now.activeStates &= ~(1 << s);
                }
            }
        }

        private void takeTransitions() {
            for (int i = 0; i < selection.keptCount; i++) {
                putRecord(TAKEN + selection.kept[i]);
                doActions(selection.kept[i]);
            }
        }

        private int entrySet() {
            int states = 0;
            for (int i = 0; i < selection.keptCount; i++) {
                int t = selection.kept[i];
                if (transitions.target[t] != NONE) {
                    states |= withPath(meantBy(transitions.target[t]), transitions.domain[t]);
                }
            }
            return tree.completed(states);
        }

        private int meantBy(int target) {
            if (!tree.isHistory(target)) {
                return 1 << target;
            }
            if (memory[target] != 0) {
                return memory[target];
            }
            int parent = tree.parent[target];
            return tree.kind[parent] == PARALLEL ? 1 << parent : 1 << tree.initialChild[parent];
        }

        private int withPath(int targets, int domain) {
            int states = targets;
            for (int s = 1; s <= tree.count; s++) {
                if (isIn(s, targets)) {
                    states |= tree.above[s] & tree.below[domain];
                }
            }
            return states;
        }

        private void enter(int states) {
            for (int s = 1; s <= tree.count; s++) {
                if (isIn(s, states)) {
                    putRecord(ENTERED + s);
                    if (!isGoingOn()) {
                        return;
                    }
                    now.activeStates |= 1 << s;
                    doActions(ENTRY_OF + s);
                    if (tree.kind[s] == FINAL) {
                        announceFinal(s);
                    }
                }
            }
        }

        private void announceFinal(int s) {
            int parent = tree.parent[s];
            if (parent == 0) {
                reachedEnd = true;
                return;
            }
            putInternal(DONE + parent);
            int grandparent = tree.parent[parent];
            if (tree.kind[grandparent] == PARALLEL && allChildrenDone(grandparent)) {
                putInternal(DONE + grandparent);
            }
        }

        private boolean allChildrenDone(int parallel) {
            for (int s = 1; s <= tree.count; s++) {
                if (isIn(s, tree.children[parallel]) && !hasActiveFinalChild(s)) {
                    return false;
                }
            }
            return true;
        }

        private boolean hasActiveFinalChild(int parent) {
            int candidates = tree.children[parent] & now.activeStates;
            for (int s = 1; s <= tree.count; s++) {
                if (isIn(s, candidates) && tree.kind[s] == FINAL) {
                    return true;
                }
            }
            return false;
        }

        private void doActions(int owner) {
            for (int i = 0; i < actions.count && isGoingOn(); i++) {
                if (actions.owner[i] == owner) {
                    doAction(actions.op[i], actions.a[i], actions.b[i]);
                }
            }
        }

        private void doAction(int op, int a, int b) {
            switch (op) {
                case SET:
                    now.variables[a] = b;
                    break;
                case ADD:
                    now.variables[a] += b;
                    break;
                case RAISE:
                    failUnless(internal.put(a));
                    break;
                default:
                    failUnless(b == 0 ? external.put(a) : sent.put(a, clock + b));
                    break;
            }
        }

        private void putRecord(int number) {
            if (isGoingOn()) {
                failUnless(records.put(number));
            }
        }

        private void putInternal(int event) {
            if (isGoingOn()) {
                failUnless(internal.put(event));
            }
        }

        private void failUnless(boolean hadRoom) {
            if (!hadRoom) {
                result = NO_ROOM;
            }
        }

        void advanceClock(int ticks) {
            clock += ticks;
            for (int left = sent.count; left > 0; left--) {
                int place = sent.placeOfEarliest(clock);
                if (place == NONE) {
                    return;
                }
                if (!external.put(sent.event[place])) {
                    result = NO_ROOM;
                    return;
                }
                sent.drop(place);
            }
        }
    }
}
