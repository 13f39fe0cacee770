import java.util.ArrayList;
import java.util.HashMap;
import java.util.List;
import java.util.Map;

/**
 * A second checker and machine, straight from the document's words: types are trees, names a chain of
 * pairs, what is still to do a chain of steps that is never changed. It does not check what tells the
 * nodes: the numbers that EffectNodes gave are handed to it.
 */
final class PlainModel {
    record Type(int base, Type argument, Type result, int row) {
        String key() {
            return base >= 0 ? "" + base : "(" + argument.key() + ">" + result.key() + "," + row + ")";
        }

        boolean fits(Type other) {
            if (base >= 0 || other.base >= 0) {
                return base == other.base;
            }
            return other.argument.fits(argument) && result.fits(other.result) && (row | other.row) == other.row;
        }
    }

    record Clause(int effect, int x, int k, int a) { }

    record Node(String kind, int[] numbers, int[] parts, List<Clause> clauses) { }

    record Seen(Type type, int effects) { }

    static final class Fault extends RuntimeException {
        private static final long serialVersionUID = 1L;
        final int kind;
        final int node;

        Fault(int kind, int node) {
            this.kind = kind;
            this.node = node;
        }
    }

    static final Type INT = new Type(0, null, null, 0);
    static final Type BOOL = new Type(1, null, null, 0);
    static final Type UNIT = new Type(2, null, null, 0);

    final List<Node> nodes = new ArrayList<>();
    final List<Clause> ready = new ArrayList<>();
    List<Type> types = new ArrayList<>(List.of(INT, BOOL, UNIT));
    final Type[] given = new Type[8];
    final Type[] result = new Type[8];
    int faultKind = 0;
    int faultNode = -1;
    int effects = 0;
    int program = -1;
    Type programType;

    PlainModel() {
        for (int e = 0; e < 8; e++) {
            given[e] = INT;
            result[e] = INT;
        }
    }

    void tell(String kind, int[] numbers, int... parts) {
        nodes.add(new Node(kind, numbers, parts, new ArrayList<>(kind.equals("handle") ? ready : List.of())));
        if (kind.equals("handle")) {
            ready.clear();
        }
        measure(nodes.size() - 1);
    }

    int number(Type type) {
        for (int i = 0; i < types.size(); i++) {
            if (types.get(i).key().equals(type.key())) {
                return i;
            }
        }
        types.add(type);
        return types.size() - 1;
    }

    private final Map<Integer, Integer> sizes = new HashMap<>();
    private final Map<Integer, Integer> depths = new HashMap<>();

    private void measure(int node) {
        Node n = nodes.get(node);
        List<Integer> parts = new ArrayList<>();
        for (int part : n.parts) {
            parts.add(part);
        }
        for (Clause c : n.clauses) {
            parts.add(c.a);
        }
        int size = 1;
        int depth = 1;
        for (int part : parts) {
            size = Math.min(1000, size + sizes.get(part));
            depth = Math.max(depth, depths.get(part) + 1);
        }
        sizes.put(node, size);
        depths.put(node, depth);
    }

    /** The type's number, -2 for an IllegalStateException, -3 for an IllegalArgumentException. */
    int check(int node) {
        if (sizes.get(node) > 400 || depths.get(node) > 40) {
            return -2;
        }
        List<Type> told = new ArrayList<>(types);
        program = -1;
        state = 0;
        faultKind = 0;
        faultNode = -1;
        effects = -1;
        try {
            Seen seen = look(node, new HashMap<>());
            if (types.size() > 63) {
                throw new Fault(9, -1);
            }
            program = node;
            programType = seen.type;
            effects = seen.effects;
            return number(seen.type);
        } catch (Fault f) {
            types = told;
            faultKind = f.kind;
            faultNode = f.node;
            return -3;
        }
    }

    private static Map<Integer, Type> with(Map<Integer, Type> scope, int name, Type type) {
        Map<Integer, Type> more = new HashMap<>(scope);
        more.put(name, type);
        return more;
    }

    private static void need(boolean holds, int fault, int node) {
        if (!holds) {
            throw new Fault(fault, node);
        }
    }

    private Seen look(int place, Map<Integer, Type> scope) {
        Node n = nodes.get(place);
        int[] p = n.parts;
        int[] m = n.numbers;
        switch (n.kind) {
            case "number":
                return new Seen(INT, 0);
            case "truth":
                return new Seen(BOOL, 0);
            case "nothing":
                return new Seen(UNIT, 0);
            case "name":
                need(scope.containsKey(m[0]), 5, place);
                return new Seen(scope.get(m[0]), 0);
            case "let": {
                Seen a = look(p[0], scope);
                Seen b = look(p[1], with(scope, m[0], a.type));
                return new Seen(b.type, a.effects | b.effects);
            }
            case "rec": {
                Type f = types.get(m[2]);
                Map<Integer, Type> outer = with(scope, m[0], f);
                Seen a = look(p[0], with(outer, m[1], f.argument));
                need(a.type.fits(f.result), 6, p[0]);
                need((a.effects & ~f.row) == 0, 7, p[0]);
                return look(p[1], outer);
            }
            case "choice": {
                Seen a = look(p[0], scope);
                need(a.type.base == 1, 6, p[0]);
                Seen b = look(p[1], scope);
                Seen c = look(p[2], scope);
                need(b.type.key().equals(c.type.key()), 6, p[2]);
                return new Seen(b.type, a.effects | b.effects | c.effects);
            }
            case "fn": {
                Type x = types.get(m[1]);
                Seen a = look(p[0], with(scope, m[0], x));
                Type f = new Type(-1, x, a.type, a.effects);
                number(f);
                return new Seen(f, 0);
            }
            case "two": {
                Seen a = look(p[0], scope);
                Seen b = look(p[1], scope);
                need(a.type.base == 0, 6, p[0]);
                need(b.type.base == 0, 6, p[1]);
                return new Seen(m[0] < 3 ? INT : BOOL, a.effects | b.effects);
            }
            case "call": {
                Seen a = look(p[0], scope);
                need(a.type.base < 0, 6, p[0]);
                Seen b = look(p[1], scope);
                need(b.type.fits(a.type.argument), 6, p[1]);
                return new Seen(a.type.result, a.effects | b.effects | a.type.row);
            }
            case "perform": {
                Seen a = look(p[0], scope);
                need(a.type.fits(given[m[0]]), 6, p[0]);
                return new Seen(result[m[0]], a.effects | 1 << m[0]);
            }
            default:
                return lookHandle(n, scope);
        }
    }

    private Seen lookHandle(Node n, Map<Integer, Type> scope) {
        int row = n.numbers[0];
        Seen body = look(n.parts[0], scope);
        Seen end = look(n.parts[1], with(scope, n.numbers[1], body.type));
        need((end.effects & ~row) == 0, 7, n.parts[1]);
        int left = body.effects;
        List<Integer> had = new ArrayList<>();
        for (Clause c : n.clauses) {
            need(!had.contains(c.effect), 8, c.a);
            had.add(c.effect);
            Type k = new Type(-1, result[c.effect], end.type, row);
            number(k);
            Seen s = look(c.a, with(with(scope, c.x, given[c.effect]), c.k, k));
            need(s.type.fits(end.type), 6, c.a);
            need((s.effects & ~row) == 0, 7, c.a);
            left &= ~(1 << c.effect);
        }
        need((left & ~row) == 0, 7, n.parts[0]);
        return new Seen(end.type, row);
    }

    // Running.

    record Names(int name, Object value, Names more) { }

    record Closure(int x, int body, Names[] names) { }

    static final class Continuation {
        List<Step> steps = new ArrayList<>();
        int counts = 0;
        boolean gone = false;
    }

    /** One thing still to do with a value: what, of which node, with which names and an earlier value. */
    record Step(String what, int node, Names names, Object earlier, Step next) {
        boolean counts() {
            return what.equals("call") || what.equals("handler") || what.equals("expr");
        }
    }

    int state = 0;
    int fuel;
    int things;
    int unhandled;
    Object value;
    private int control;
    private Names names;
    private boolean hasValue;
    private Step next;

    void start() {
        state = 1;
        fuel = 0;
        things = 0;
        unhandled = -1;
        control = program;
        names = null;
        hasValue = false;
        next = null;
    }

    int depth() {
        int all = 0;
        for (Step s = next; s != null; s = s.next) {
            all += s.counts() ? 1 : 0;
        }
        return all;
    }

    int shown() {
        if (state != 2) {
            return 0;
        }
        return value instanceof Integer i ? i : value instanceof Boolean b && b ? 1 : 0;
    }

    int run(int n) {
        int before = fuel;
        while (state == 1) {
            if (!hasValue) {
                begin(nodes.get(control));
            } else if (next == null) {
                state = 2;
            } else if ((next.what.equals("apply") || next.what.equals("raise")) && fuel - before == n) {
                break;
            } else {
                goOn(next);
            }
        }
        return fuel - before;
    }

    private void give(Object v) {
        value = v;
        hasValue = true;
    }

    private void work(int node, Names with, Step then) {
        control = node;
        names = with;
        hasValue = false;
        next = then;
    }

    private boolean makes(int more) {
        if (things + more > 1000) {
            state = 5;
            return false;
        }
        return true;
    }

    private void begin(Node n) {
        int[] m = n.numbers;
        switch (n.kind) {
            case "number":
                give(m[0]);
                break;
            case "truth":
                give(m[0] == 1);
                break;
            case "nothing":
                give("unit");
                break;
            case "name":
                Names at = names;
                while (at.name != m[0]) {
                    at = at.more;
                }
                give(at.value);
                break;
            case "fn":
                if (makes(1)) {
                    things++;
                    give(new Closure(m[0], n.parts[0], new Names[] {names}));
                }
                break;
            case "rec":
                if (makes(1)) {
                    things++;
                    Closure f = new Closure(m[1], n.parts[0], new Names[1]);
                    f.names[0] = new Names(m[0], f, names);
                    work(n.parts[1], f.names[0], next);
                }
                break;
            case "handle":
                if (makes(1)) {
                    if (depth() == 400) {
                        state = 6;
                    } else {
                        things++;
                        work(n.parts[0], names, new Step("handler", control, names, null, next));
                    }
                }
                break;
            default:
                work(n.parts[0], names, new Step("first", control, names, null, next));
                break;
        }
    }

    private void goOn(Step s) {
        Node n = s.node >= 0 ? nodes.get(s.node) : null;
        switch (s.what) {
            case "first":
                behindFirst(s, n);
                break;
            case "second":
                give(combined(n.numbers[0], (Integer) s.earlier, (Integer) value));
                next = s.next;
                break;
            case "argument":
                next = new Step("apply", s.node, s.names, s.earlier, s.next);
                break;
            case "apply":
                fuel++;
                apply(s);
                break;
            case "raise":
                fuel++;
                raise(s, n.numbers[0]);
                break;
            case "handler":
                work(n.parts[1], new Names(n.numbers[1], value, s.names), new Step("expr", -1, null, null, s.next));
                break;
            default:
                next = s.next;
                break;
        }
    }

    private void behindFirst(Step s, Node n) {
        switch (n.kind) {
            case "let":
                work(n.parts[1], new Names(n.numbers[0], value, s.names), s.next);
                break;
            case "choice":
                work(n.parts[(Boolean) value ? 1 : 2], s.names, s.next);
                break;
            case "two":
                work(n.parts[1], s.names, new Step("second", s.node, s.names, value, s.next));
                break;
            case "call":
                work(n.parts[1], s.names, new Step("argument", s.node, s.names, value, s.next));
                break;
            default:
                next = new Step("raise", s.node, s.names, null, s.next);
                break;
        }
    }

    private static Object combined(int sign, int a, int b) {
        switch (sign) {
            case 0:
                return a + b;
            case 1:
                return a - b;
            case 2:
                return a * b;
            case 3:
                return a < b;
            default:
                return a == b;
        }
    }

    private void apply(Step s) {
        if (s.earlier instanceof Closure f) {
            if (depth() == 400) {
                state = 6;
                return;
            }
            work(f.body, new Names(f.x, value, f.names[0]), new Step("call", -1, null, null, s.next));
            return;
        }
        Continuation k = (Continuation) s.earlier;
        if (k.gone) {
            state = 3;
        } else if (depth() + k.counts > 400) {
            state = 6;
        } else {
            k.gone = true;
            Step rest = s.next;
            for (int i = k.steps.size() - 1; i >= 0; i--) {
                Step t = k.steps.get(i);
                rest = new Step(t.what, t.node, t.names, t.earlier, rest);
            }
            next = rest;
        }
    }

    private void raise(Step s, int effect) {
        Continuation k = new Continuation();
        for (Step t = s.next; t != null; t = t.next) {
            k.steps.add(t);
            k.counts += t.counts() ? 1 : 0;
            if (!t.what.equals("handler")) {
                continue;
            }
            for (Clause c : nodes.get(t.node).clauses) {
                if (c.effect == effect) {
                    if (makes(1 + k.counts)) {
                        things += 1 + k.counts;
                        Names with = new Names(c.k, k, new Names(c.x, value, t.names));
                        work(c.a, with, new Step("expr", -1, null, null, t.next));
                    }
                    return;
                }
            }
        }
        unhandled = effect;
        state = 4;
    }
}
