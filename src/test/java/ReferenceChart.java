import java.util.ArrayList;
import java.util.LinkedHashSet;
import java.util.List;
import java.util.Set;
import java.util.TreeSet;

/**
 * The document once more, sentence by sentence, with sets and lists of the library and without a thought for room or
 * speed: what ReferenceTest compares the class with.
 */
final class ReferenceChart {
    private static final class State {
        int number;
        int kind;
        State parent;
        State named;
        Set<State> remembers;

        boolean history() {
            return kind >= 4;
        }

        boolean isBelow(State other) {
            return parent != null && (parent == other || parent.isBelow(other));
        }
    }

    private static final class Arc {
        int number;
        State source;
        int event;
        State target;
        int[] guard;
    }

    private static final class Failure extends RuntimeException {
        private static final long serialVersionUID = 1L;
        final int outcome;

        Failure(int outcome) {
            super(null, null, false, false);
            this.outcome = outcome;
        }
    }

    private final List<State> states = new ArrayList<>();
    private final List<Arc> arcs = new ArrayList<>();
    private final List<int[]> actions = new ArrayList<>();
    private int outcome = 0;
    private final int[] variables = new int[4];
    private final Set<State> active = new LinkedHashSet<>();
    private final List<Integer> internal = new ArrayList<>();
    private final List<Integer> external = new ArrayList<>();
    private final List<int[]> sent = new ArrayList<>();
    private final List<Integer> records = new ArrayList<>();
    private int clock;
    private int microsteps;
    private boolean end;

    ReferenceChart() {
        State zero = new State();
        zero.kind = 1;
        states.add(zero);
    }

    private State made(int s) {
        return s >= 1 && s < states.size() ? states.get(s) : null;
    }

    private State madeState(int s) {
        State found = made(s);
        return found == null || found.history() ? null : found;
    }

    private List<State> children(State parent) {
        List<State> found = new ArrayList<>();
        for (State s : states) {
            if (s.parent == parent && s.parent != null && !s.history()) {
                found.add(s);
            }
        }
        return found;
    }

    private boolean compound(State s) {
        return s.kind == 1 && !children(s).isEmpty();
    }

    private State initialChild(State s) {
        return s.named != null ? s.named : children(s).get(0);
    }

    int state(int parent, int kind) {
        if (outcome != 0 || kind < 1 || kind > 5 || parent < 0 || parent >= states.size()) {
            return -1;
        }
        State above = states.get(parent);
        if (above.kind > 2 || above.kind == 2 && kind == 3 || parent == 0 && kind >= 4) {
            return -1;
        }
        if (states.size() == 16) {
            return -2;
        }
        State s = new State();
        s.number = states.size();
        s.kind = kind;
        s.parent = above;
        states.add(s);
        return s.number;
    }

    boolean initial(int child) {
        State s = madeState(child);
        if (outcome != 0 || s == null || s.parent.kind != 1) {
            return false;
        }
        s.parent.named = s;
        return true;
    }

    int transition(int source, int event, int target) {
        State from = madeState(source);
        if (outcome != 0 || from == null || from.kind == 3) {
            return -1;
        }
        boolean known = event >= 0 && event <= 20 || event > 100 && event < 200 && madeState(event - 100) != null;
        if (!known || target != -1 && made(target) == null) {
            return -1;
        }
        if (arcs.size() == 20) {
            return -2;
        }
        Arc arc = new Arc();
        arc.number = arcs.size();
        arc.source = from;
        arc.event = event;
        arc.target = target == -1 ? null : made(target);
        arcs.add(arc);
        return arc.number;
    }

    boolean guard(int t, int what, int op, int value) {
        if (outcome != 0 || t < 0 || t >= arcs.size() || op < 0 || op > 3 || what < 0 || what > 3) {
            return false;
        }
        if (op == 3 && (what != 0 || madeState(value) == null)) {
            return false;
        }
        arcs.get(t).guard = new int[] {what, op, value};
        return true;
    }

    boolean action(int owner, int op, int a, int b) {
        boolean owned = owner >= 0 && owner < arcs.size()
                || owner > 100 && owner < 200 && madeState(owner - 100) != null
                || owner > 200 && owner < 300 && madeState(owner - 200) != null;
        boolean set = (op == 0 || op == 1) && a >= 0 && a <= 3;
        boolean raise = op == 2 && a >= 1 && a <= 20 && b == 0;
        boolean send = op == 3 && a >= 1 && a <= 20 && b >= 0 && b <= 50;
        if (outcome != 0 || !owned || !(set || raise || send) || actions.size() == 32) {
            return false;
        }
        actions.add(new int[] {owner, op, a, b});
        return true;
    }

    private boolean whole() {
        for (State s : states) {
            if (s.kind == 2 && children(s).isEmpty()) {
                return false;
            }
            if (s.history() && s.parent.kind == 1 && children(s.parent).isEmpty()) {
                return false;
            }
        }
        return !children(states.get(0)).isEmpty();
    }

    int begin() {
        if (outcome != 0) {
            return -1;
        }
        if (!whole()) {
            return -3;
        }
        outcome = 1;
        java.util.Arrays.fill(variables, 0);
        active.clear();
        internal.clear();
        external.clear();
        sent.clear();
        records.clear();
        clock = 0;
        microsteps = 0;
        end = false;
        for (State s : states) {
            s.remembers = null;
        }
        try {
            TreeSet<Integer> entered = new TreeSet<>();
            entered.add(initialChild(states.get(0)).number);
            enterAll(entered);
            if (end) {
                outcome = 2;
            } else {
                macrostep();
            }
        } catch (Failure failure) {
            outcome = failure.outcome;
        }
        return microsteps;
    }

    boolean post(int event) {
        if (outcome != 1 || event < 1 || event > 20 || external.size() == 16) {
            return false;
        }
        external.add(event);
        return true;
    }

    int step() {
        if (outcome != 1) {
            return -1;
        }
        if (external.isEmpty()) {
            return -4;
        }
        microsteps = 0;
        records.clear();
        try {
            List<Arc> selected = select(external.remove(0));
            if (!selected.isEmpty()) {
                microstep(keep(selected));
            }
            if (outcome == 1) {
                macrostep();
            }
        } catch (Failure failure) {
            outcome = failure.outcome;
        }
        return microsteps;
    }

    int tick(int n) {
        if (outcome != 1 || n < 1 || n > 50) {
            return -1;
        }
        clock += n;
        List<int[]> due = new ArrayList<>();
        for (int[] event : sent) {
            if (event[1] <= clock) {
                due.add(event);
            }
        }
        due.sort((one, other) -> Integer.compare(one[1], other[1]));
        for (int[] event : due) {
            if (external.size() == 16) {
                outcome = 4;
                return clock;
            }
            external.add(event[0]);
            sent.remove(event);
        }
        return clock;
    }

    void reset() {
        outcome = 0;
    }

    private boolean holds(int[] guard) {
        if (guard == null) {
            return true;
        }
        if (guard[1] == 3) {
            return active.contains(states.get(guard[2]));
        }
        int order = Integer.compare(variables[guard[0]], guard[2]);
        return guard[1] == 0 ? order < 0 : guard[1] == 1 ? order == 0 : order > 0;
    }

    private List<Arc> select(int event) {
        List<Arc> selected = new ArrayList<>();
        for (State atomic : states) {
            if (!active.contains(atomic) || !children(atomic).isEmpty()) {
                continue;
            }
            Arc found = null;
            for (State s = atomic; s.parent != null && found == null; s = s.parent) {
                for (Arc arc : arcs) {
                    if (found == null && arc.source == s && arc.event == event && holds(arc.guard)) {
                        found = arc;
                    }
                }
            }
            if (found != null && !selected.contains(found)) {
                selected.add(found);
            }
        }
        return selected;
    }

    private State domain(Arc arc) {
        State s = arc.source.parent;
        while (!(compound(s) && arc.target.isBelow(s))) {
            s = s.parent;
        }
        return s;
    }

    private Set<State> exitSet(Arc arc) {
        Set<State> found = new LinkedHashSet<>();
        if (arc.target != null) {
            for (State s : active) {
                if (s.isBelow(domain(arc))) {
                    found.add(s);
                }
            }
        }
        return found;
    }

    private List<Arc> keep(List<Arc> selected) {
        List<Arc> kept = new ArrayList<>();
        for (Arc arc : selected) {
            List<Arc> against = new ArrayList<>();
            for (Arc other : kept) {
                Set<State> common = exitSet(arc);
                common.retainAll(exitSet(other));
                if (!common.isEmpty()) {
                    against.add(other);
                }
            }
            boolean allBelow = true;
            for (Arc other : against) {
                allBelow &= arc.source.isBelow(other.source);
            }
            if (allBelow) {
                kept.removeAll(against);
                kept.add(arc);
            }
        }
        return kept;
    }

    private void macrostep() {
        while (outcome == 1) {
            List<Arc> selected = select(0);
            while (selected.isEmpty() && !internal.isEmpty()) {
                selected = select(internal.remove(0));
            }
            if (selected.isEmpty()) {
                return;
            }
            microstep(keep(selected));
        }
    }

    private void microstep(List<Arc> kept) {
        if (microsteps == 30) {
            throw new Failure(3);
        }
        microsteps++;
        Set<State> exits = new LinkedHashSet<>();
        for (Arc arc : kept) {
            exits.addAll(exitSet(arc));
        }
        for (State h : states) {
            if (h.history() && exits.contains(h.parent)) {
                h.remembers = new LinkedHashSet<>();
                for (State s : active) {
                    if (h.kind == 4 ? s.parent == h.parent : s.isBelow(h.parent) && children(s).isEmpty()) {
                        h.remembers.add(s);
                    }
                }
            }
        }
        for (int s = states.size() - 1; s > 0; s--) {
            if (exits.contains(states.get(s))) {
                record(2000 + s);
                act(200 + s);
                active.remove(states.get(s));
            }
        }
        for (Arc arc : kept) {
            record(3000 + arc.number);
            act(arc.number);
        }
        TreeSet<Integer> entered = new TreeSet<>();
        for (Arc arc : kept) {
            if (arc.target != null) {
                for (State s : meaning(arc.target)) {
                    for (State up = s; up.isBelow(domain(arc)); up = up.parent) {
                        entered.add(up.number);
                    }
                }
            }
        }
        enterAll(entered);
        if (end) {
            outcome = 2;
        }
    }

    private Set<State> meaning(State target) {
        if (!target.history()) {
            return Set.of(target);
        }
        if (target.remembers != null) {
            return target.remembers;
        }
        return Set.of(target.parent.kind == 2 ? target.parent : initialChild(target.parent));
    }

    private void enterAll(TreeSet<Integer> entered) {
        boolean added = true;
        while (added) {
            added = false;
            for (int number : new ArrayList<>(entered)) {
                State s = states.get(number);
                List<Integer> below = new ArrayList<>();
                for (State child : children(s)) {
                    below.add(child.number);
                }
                if (s.kind == 2) {
                    added |= entered.addAll(below);
                } else if (compound(s) && below.stream().noneMatch(entered::contains)) {
                    added |= entered.add(initialChild(s).number);
                }
            }
        }
        for (int number : entered) {
            record(1000 + number);
            active.add(states.get(number));
            act(100 + number);
            if (states.get(number).kind == 3) {
                done(states.get(number));
            }
        }
    }

    private void done(State s) {
        State parent = s.parent;
        if (parent.number == 0) {
            end = true;
            return;
        }
        raise(100 + parent.number);
        if (parent.parent.kind == 2) {
            for (State child : children(parent.parent)) {
                if (children(child).stream().noneMatch(c -> c.kind == 3 && active.contains(c))) {
                    return;
                }
            }
            raise(100 + parent.parent.number);
        }
    }

    private void record(int number) {
        if (records.size() == 200) {
            throw new Failure(4);
        }
        records.add(number);
    }

    private void raise(int event) {
        if (internal.size() == 16) {
            throw new Failure(4);
        }
        internal.add(event);
    }

    private void act(int owner) {
        for (int[] action : actions) {
            if (action[0] != owner) {
                continue;
            }
            if (action[1] == 0) {
                variables[action[2]] = action[3];
            } else if (action[1] == 1) {
                variables[action[2]] += action[3];
            } else if (action[1] == 2) {
                raise(action[2]);
            } else if (action[3] == 0) {
                if (external.size() == 16) {
                    throw new Failure(4);
                }
                external.add(action[2]);
            } else {
                if (sent.size() == 12) {
                    throw new Failure(4);
                }
                sent.add(new int[] {action[2], clock + action[3]});
            }
        }
    }

    int outcome() {
        return outcome;
    }

    private static int sum(Set<State> set) {
        int sum = 0;
        for (State s : set) {
            sum += 1 << s.number;
        }
        return sum;
    }

    int active() {
        return outcome == 0 ? 0 : sum(active);
    }

    int remembered(int history) {
        State h = made(history);
        return outcome == 0 || h == null || h.remembers == null ? 0 : sum(h.remembers);
    }

    int variable(int v) {
        return outcome == 0 || v < 0 || v > 3 ? 0 : variables[v];
    }

    int listed(int place) {
        return outcome == 0 || place < 0 || place >= records.size() ? -1 : records.get(place);
    }

    int waiting(int which) {
        if (which < 0 || which > 2) {
            return -1;
        }
        return outcome == 0 ? 0 : which == 0 ? internal.size() : which == 1 ? external.size() : sent.size();
    }
}
