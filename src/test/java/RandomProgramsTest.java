import java.util.ArrayList;
import java.util.HashMap;
import java.util.List;
import java.util.Map;
import java.util.Random;

/** Random programs, told to EffectNodes and to PlainModel: both must answer alike. */
final class RandomProgramsTest {
    private static final int PROGRAMS = 4000;
    private static final int[] COUNTS = {0, 1, 2, 3, 5, 20, 90, 130, 250, 399, 450};
    private static final int[] FUELS = {0, 1, 1, 2, 3, 7, 30, 199, 200, 200};
    private static final Due due = new Due("RandomProgramsTest");
    private static final Map<String, Integer> ends = new HashMap<>();

    private final Random random;
    private final int seed;
    private final EffectNodes real = new EffectNodes();
    private final PlainModel model = new PlainModel();
    private final boolean careless;
    private int calls = 0;
    private int told = 0;
    private int clauses = 0;

    private RandomProgramsTest(int seed) {
        this.seed = seed;
        random = new Random(seed);
        careless = random.nextInt(3) == 0;
    }

    public static void main(String[] args) {
        for (int seed = 0; seed < PROGRAMS; seed++) {
            RandomProgramsTest one = new RandomProgramsTest(seed);
            if (seed % 10 == 9) {
                one.anyNodes();
            } else {
                one.programs();
            }
        }
        // Random programs that never come to an end would test nothing of it.
        String[] wanted = {"fault 5", "fault 6", "fault 7", "fault 8", "fault 9", "refused", "state 1", "state 2", "state 3",
            "state 4", "state 5", "state 6"};
        for (String end : wanted) {
            due.is("programs with " + end + " of " + ends, true, () -> ends.getOrDefault(end, 0) >= 10);
        }
        due.end();
    }

    private static void count(String end) {
        ends.merge(end, 1, Integer::sum);
    }

    private void same(String what, Object want, Due.Call call) {
        due.is("seed " + seed + ": " + what, want, call);
    }

    // Telling to both.

    private int tell(String kind, int number, int[] numbers, int... parts) {
        calls++;
        model.tell(kind, numbers, parts);
        same(kind, told, () -> number);
        told++;
        return number;
    }

    private int atom(int kind, int a) {
        String[] kinds = {"number", "truth", "nothing", "name"};
        return tell(kinds[kind], real.atom(kind, a), new int[] {a});
    }

    private int let(int x, int a, int b) {
        return tell("let", real.let(x, a, b), new int[] {x}, a, b);
    }

    private int rec(int f, int x, int type, int a, int b) {
        return tell("rec", real.rec(f, x, type, a, b), new int[] {f, x, type}, a, b);
    }

    private int choice(int a, int b, int c) {
        return tell("choice", real.choice(a, b, c), new int[] {}, a, b, c);
    }

    private int fn(int x, int type, int a) {
        return tell("fn", real.fn(x, type, a), new int[] {x, type}, a);
    }

    private int two(int sign, int a, int b) {
        return tell("two", real.two(sign, a, b), new int[] {sign}, a, b);
    }

    private int call(int a, int b) {
        return tell("call", real.call(a, b), new int[] {}, a, b);
    }

    private int perform(int e, int a) {
        return tell("perform", real.perform(e, a), new int[] {e}, a);
    }

    private int handle(int a, int row, int x, int b, List<int[]> own) {
        for (int[] c : own) {
            calls++;
            if (clauses >= 40) {
                same("clause", "throws.IllegalStateException", () -> real.clause(c[0], c[1], c[2], c[3]));
                continue;
            }
            clauses++;
            model.ready.add(new PlainModel.Clause(c[0], c[1], c[2], c[3]));
            same("clause", model.ready.size(), () -> real.clause(c[0], c[1], c[2], c[3]));
        }
        return tell("handle", real.handle(a, row, x, b), new int[] {row, x}, a, b);
    }

    /** The number of a function type, or -1 if there is no room for it. */
    private int function(int argument, int result, int row) {
        PlainModel.Type type = new PlainModel.Type(-1, model.types.get(argument), model.types.get(result), row);
        if (type.key().length() > 60) {
            return -1;
        }
        calls++;
        int number = model.number(type);
        if (model.types.size() > 63) {
            model.types.remove(63);
            same("function", "throws.IllegalStateException", () -> real.function(argument, result, row));
            return -1;
        }
        same("function", number, () -> real.function(argument, result, row));
        return number;
    }

    private void effect(int e, int given, int result) {
        calls++;
        model.given[e] = model.types.get(given);
        model.result[e] = model.types.get(result);
        real.effect(e, given, result);
    }

    // Checking and running both.

    private boolean check(int node) {
        calls += 4;
        int want = model.check(node);
        same("check " + node, want == -2 ? "throws.IllegalStateException"
                : want == -3 ? "throws.IllegalArgumentException" : want, () -> real.check(node));
        same("faults", model.faultKind + " " + model.faultNode + " " + model.effects, () -> Due.faults(real));
        if (want < 0) {
            count(want == -2 ? "refused" : "fault " + model.faultKind);
            return false;
        }
        for (int t = 0; t <= model.types.size(); t++) {
            compareType(t);
        }
        for (int i = 0; i < 10; i++) {
            int a = random.nextInt(model.types.size());
            int b = random.nextInt(model.types.size());
            same("fits " + a + " " + b, model.types.get(a).fits(model.types.get(b)), () -> real.fits(a, b));
        }
        return true;
    }

    private void compareType(int t) {
        String want = "-1 -1 -1";
        if (t >= 3 && t < model.types.size()) {
            PlainModel.Type type = model.types.get(t);
            want = model.number(type.argument()) + " " + model.number(type.result()) + " " + type.row();
        }
        same("type " + t, want, () -> real.type(t, 0) + " " + real.type(t, 1) + " " + real.type(t, 2));
    }

    private void compareStates() {
        String want = "0 0 0 0 0 -1";
        if (model.state != 0) {
            want = model.state + " " + model.shown() + " " + model.fuel + " " + model.things + " " + model.depth()
                    + " " + model.unhandled;
        }
        same("states", want, () -> Due.states(real));
    }

    private void work() {
        compareStates();
        for (int again = 0; again < 2; again++) {
            real.start();
            model.start();
            compareStates();
            for (int i = 0; i < 12 && (model.state == 1 || i < 2); i++) {
                int n = FUELS[random.nextInt(FUELS.length)];
                int want = model.run(n);
                same("run " + n, want, () -> real.run(n));
                compareStates();
            }
            if (again == 0) {
                count("state " + model.state);
            }
        }
    }

    // Making programs.

    private void programs() {
        for (int i = 0; i < 4; i++) {
            function(random.nextInt(model.types.size()), random.nextInt(3), random.nextBoolean() ? 255 : random.nextInt(256));
        }
        if (random.nextInt(8) == 0) {
            for (int i = 0; i < 55; i++) {
                function(2, 2, i);
            }
        }
        for (int e = 0; e < 8; e++) {
            effect(e, random.nextInt(4) == 0 ? anyType() : random.nextInt(3), random.nextInt(3) == 0 ? anyType() : 0);
        }
        for (int i = 0; i < 3 && told < 110 && calls < 400; i++) {
            int type = random.nextInt(4) == 0 ? anyType() : 0;
            int levels = 4 + random.nextInt(3);
            if (Due.answerOf(() -> whole(type, levels)).startsWith("throws")) {
                same("only for want of room", 200, () -> told);
                return;
            }
            if (check(told - 1)) {
                work();
            } else {
                compareStates();
            }
        }
    }

    /** A program; most stand in a handler of all effects, so that few end UNHANDLED. */
    private int whole(int type, int levels) {
        int body = make(type, new HashMap<>(), levels);
        if (clauses > 32 || random.nextInt(4) == 0) {
            return body;
        }
        List<int[]> own = new ArrayList<>();
        for (int e = 0; e < 8; e++) {
            int kType = function(model.number(model.result[e]), type, 255);
            int k = random.nextInt(10);
            Map<Integer, Integer> inner = new HashMap<>();
            inner.put(random.nextInt(10), model.number(model.given[e]));
            int x = inner.keySet().iterator().next();
            if (kType >= 0) {
                inner.put(k, kType);
            }
            int a = call(atom(3, k), make(model.number(model.result[e]), inner, random.nextInt(2)));
            int how = random.nextInt(12);
            own.add(new int[] {e, x, k, how == 0 ? let(0, a, a) : how == 1 ? make(type, inner, 1) : a});
        }
        return handle(body, 255, 0, atom(3, 0), own);
    }

    private int anyType() {
        return random.nextInt(model.types.size());
    }

    private int anyRow() {
        return random.nextInt(careless ? 3 : 25) == 0 ? random.nextInt(256) : 255;
    }

    private Map<Integer, Integer> with(Map<Integer, Integer> scope, int name, int type) {
        Map<Integer, Integer> more = new HashMap<>(scope);
        more.put(name, type);
        return more;
    }

    private List<Integer> named(Map<Integer, Integer> scope, int type) {
        List<Integer> all = new ArrayList<>();
        for (Map.Entry<Integer, Integer> one : scope.entrySet()) {
            if (model.types.get(one.getValue()).fits(model.types.get(type))) {
                all.add(one.getKey());
            }
        }
        return all;
    }

    private int make(int type, Map<Integer, Integer> scope, int left) {
        int wanted = random.nextInt(careless ? 60 : 4000) == 0 ? anyType() : type;
        if (left <= 0 || told > 140) {
            return small(wanted, scope);
        }
        int x = random.nextInt(10);
        switch (random.nextInt(14)) {
            case 0: {
                int t = anyType();
                int a = make(t, scope, left - 1);
                return let(x, a, make(wanted, with(scope, x, t), left - 1));
            }
            case 1:
                return choice(make(1, scope, left - 1), make(wanted, scope, left - 1), make(wanted, scope, left - 1));
            case 2:
            case 3:
                return someCall(wanted, scope, left);
            case 4:
            case 5:
                return somePerform(wanted, scope, left);
            case 6:
            case 7:
            case 8:
                return someHandle(wanted, scope, left);
            case 9:
                return someLoop(wanted, scope, left);
            default:
                return byType(wanted, scope, left);
        }
    }

    private int byType(int type, Map<Integer, Integer> scope, int left) {
        if (type == 0) {
            return two(random.nextInt(3), make(0, scope, left - 1), make(0, scope, left - 1));
        }
        if (type == 1) {
            return two(3 + random.nextInt(2), make(0, scope, left - 1), make(0, scope, left - 1));
        }
        return small(type, scope);
    }

    private int small(int type, Map<Integer, Integer> scope) {
        List<Integer> names = named(scope, type);
        if (!names.isEmpty() && random.nextInt(3) != 0) {
            return atom(3, names.get(random.nextInt(names.size())));
        }
        if (random.nextInt(careless ? 50 : 3000) == 0) {
            return atom(3, random.nextInt(10));
        }
        if (type >= 3) {
            int x = random.nextInt(10);
            int argument = model.number(model.types.get(type).argument());
            int result = model.number(model.types.get(type).result());
            return told > 195 ? atom(2, 0) : fn(x, argument, small(result, with(scope, x, argument)));
        }
        return type == 0 ? atom(0, COUNTS[random.nextInt(5)]) : type == 1 ? atom(1, random.nextInt(2)) : atom(2, 0);
    }

    private int someCall(int type, Map<Integer, Integer> scope, int left) {
        List<Integer> functions = new ArrayList<>();
        for (Map.Entry<Integer, Integer> one : scope.entrySet()) {
            PlainModel.Type t = model.types.get(one.getValue());
            if (t.base() < 0 && t.result().fits(model.types.get(type))) {
                functions.add(one.getKey());
            }
        }
        if (!functions.isEmpty() && random.nextInt(5) != 0) {
            int f = functions.get(random.nextInt(functions.size()));
            int argument = model.number(model.types.get(scope.get(f)).argument());
            int a = atom(3, f);
            return call(a, make(argument, scope, left - 1));
        }
        int argument = anyType();
        int x = random.nextInt(10);
        int body = make(type, with(scope, x, argument), left - 1);
        int f = fn(x, argument, body);
        return call(f, make(argument, scope, left - 1));
    }

    private int somePerform(int type, Map<Integer, Integer> scope, int left) {
        List<Integer> fitting = new ArrayList<>();
        for (int e = 0; e < 8; e++) {
            if (model.result[e].fits(model.types.get(type))) {
                fitting.add(e);
            }
        }
        if (fitting.isEmpty()) {
            return small(type, scope);
        }
        int e = fitting.get(random.nextInt(fitting.size()));
        return perform(e, make(model.number(model.given[e]), scope, left - 1));
    }

    private int someHandle(int type, Map<Integer, Integer> scope, int left) {
        int row = anyRow();
        int bodyType = random.nextBoolean() ? 0 : anyType();
        int body = make(bodyType, scope, left - 1);
        int x = random.nextInt(10);
        int end = make(type, with(scope, x, bodyType), random.nextInt(left));
        List<int[]> own = new ArrayList<>();
        int first = random.nextInt(8);
        int many = Math.min(random.nextInt(4), 30 - clauses);
        for (int i = 0; i < many; i++) {
            int e = random.nextInt(careless ? 20 : 500) == 0 ? random.nextInt(8) : (first + i) % 8;
            int argument = random.nextInt(10);
            int k = random.nextInt(10);
            int kType = function(model.number(model.result[e]), type, row);
            Map<Integer, Integer> inner = with(scope, argument, model.number(model.given[e]));
            if (kType >= 0) {
                inner = with(inner, k, kType);
            } else {
                inner.remove(k);
            }
            int a;
            if (kType >= 0 && random.nextInt(3) != 0) {
                int name = atom(3, k);
                a = call(name, make(model.number(model.result[e]), inner, random.nextInt(2)));
            } else {
                a = make(type, inner, random.nextInt(left));
            }
            if (clauses + own.size() < 40) {
                own.add(new int[] {e, argument, k, a});
            }
        }
        return handle(body, row, x, end, own);
    }

    /** rec f (x : int) : type = if x < 1 then .. else (something that may call f (x - 1)) in f count */
    private int someLoop(int type, Map<Integer, Integer> scope, int left) {
        int t = function(0, type, anyRow());
        if (t < 0) {
            return small(type, scope);
        }
        int f = random.nextInt(10);
        int x = random.nextInt(20) == 0 ? f : (f + 1 + random.nextInt(9)) % 10;
        Map<Integer, Integer> outer = with(scope, f, t);
        Map<Integer, Integer> inner = with(outer, x, 0);
        int name = atom(3, x);
        int asked = two(3, name, atom(0, 1));
        int down = two(1, name, atom(0, 1));
        int again = call(atom(3, f), down);
        int stop = make(type, inner, random.nextInt(2));
        int other = again;
        switch (random.nextInt(5)) {
            case 0:
                other = let(9 - f, make(anyType(), inner, left - 1), again);
                break;
            case 1:
                other = type == 0 ? two(0, make(0, inner, left - 1), again) : again;
                break;
            case 2:
                other = handle(again, 255, x, type == 0 ? name : small(type, inner), List.of());
                break;
            case 3:
                other = make(type, inner, left - 1);
                break;
            default:
                break;
        }
        int body = choice(asked, stop, other);
        int start = call(atom(3, f), atom(0, COUNTS[random.nextInt(COUNTS.length)]));
        return rec(f, x, t, body, random.nextBoolean() ? start : make(type, outer, left - 1));
    }

    /** Nodes of any kind from any nodes before them, most of them with faults. */
    private void anyNodes() {
        atom(0, 3);
        atom(1, 1);
        atom(2, 0);
        for (int i = 0; i < 60; i++) {
            anyNode();
            if (random.nextInt(3) == 0 && check(told - 1)) {
                work();
            }
        }
    }

    private int part() {
        return random.nextInt(3) == 0 ? random.nextInt(told) : told - 1 - random.nextInt(Math.min(told, 4));
    }

    private void anyNode() {
        int name = random.nextInt(3);
        switch (random.nextInt(10)) {
            case 0:
                atom(3, name);
                break;
            case 1:
                let(name, part(), part());
                break;
            case 2:
                rec(name, random.nextInt(3), function(0, 0, random.nextInt(4)), part(), part());
                break;
            case 3:
                choice(random.nextBoolean() ? 1 : part(), part(), part());
                break;
            case 4:
                fn(name, anyType(), part());
                break;
            case 5:
                call(part(), part());
                break;
            case 6:
                perform(random.nextInt(2), part());
                break;
            case 7:
                List<int[]> own = new ArrayList<>();
                for (int i = random.nextInt(3); i > 0 && clauses + own.size() < 40; i--) {
                    own.add(new int[] {random.nextInt(2), random.nextInt(3), random.nextInt(3), part()});
                }
                handle(part(), random.nextInt(4), name, part(), own);
                break;
            default:
                two(random.nextInt(5), part(), part());
                break;
        }
    }
}
