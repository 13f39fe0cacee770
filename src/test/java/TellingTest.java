/** Promises 1 to 14: a new object, clear, and how types, effects, nodes and clauses are told. */
final class TellingTest {
    private static final Due due = new Due("TellingTest");

    public static void main(String[] args) {
        newObject();
        clearing();
        functions();
        effects();
        atoms();
        lets();
        recs();
        choices();
        fns();
        clauses();
        handles();
        twos();
        calls();
        performs();
        fullOfNodes();
        fullOfTypes();
        due.end();
    }

    private static EffectNodes withAtoms(int count) {
        EffectNodes p = new EffectNodes();
        for (int i = 0; i < count; i++) {
            p.atom(0, i);
        }
        return p;
    }

    private static void isEmpty(String when, EffectNodes p) {
        due.is(when + " states", "0 0 0 0 0 -1", () -> Due.states(p));
        due.is(when + " faults", "0 -1 0", () -> Due.faults(p));
        due.index(when + " no node 0", () -> p.let(0, 0, 0));
        due.index(when + " check", () -> p.check(0));
        due.is(when + " no type 3", -1, () -> p.type(3, 0));
        due.index(when + " fn of type 3", () -> p.function(3, 0, 0));
        due.illegalState(when + " start", () -> { p.start(); return 0; });
        due.illegalState(when + " run", () -> p.run(1));
    }

    private static void newObject() {
        isEmpty("new", new EffectNodes());
        for (int e = 0; e < 8; e++) {
            int effect = e;
            EffectNodes p = withAtoms(1);
            int node = p.perform(effect, 0);
            due.is("effects take and give int", "0 | 0 -1 " + (1 << effect), () -> Due.checked(p, node));
        }
        due.is("the first clause", 1, () -> withAtoms(1).clause(0, 0, 0, 0));
        due.is("NONE", -1, () -> EffectNodes.NONE);
    }

    private static void clearing() {
        EffectNodes p = withAtoms(3);
        p.function(0, 0, 0);
        p.effect(2, 1, 2);
        p.clause(1, 0, 0, 0);
        p.handle(0, 0, 0, 0);
        p.clause(1, 0, 0, 0);
        p.check(p.perform(0, 0));
        p.start();
        p.run(5);
        p.clear();
        isEmpty("cleared", p);
        due.is("numbers begin anew", 0, () -> p.atom(0, 4));
        due.is("types begin anew", 3, () -> p.function(1, 1, 1));
        due.is("no clause is ready", 1, () -> p.clause(0, 0, 0, 0));
        due.is("effects are int again", "0 | 0 -1 4", () -> Due.checked(p, p.perform(2, 0)));
        p.clear();
        p.atom(0, 1);
        for (int i = 1; i <= 40; i++) {
            int many = i;
            due.is("all clauses are free again", many, () -> p.clause(0, 0, 0, 0));
        }
        due.is("a fault", "throws.IllegalArgumentException | 5 1 -1", () -> Due.checked(p, p.atom(3, 1)));
        p.clear();
        due.is("a fault is cleared", "0 -1 0", () -> Due.faults(p));
    }

    private static void functions() {
        EffectNodes p = new EffectNodes();
        due.is("the first", 3, () -> p.function(0, 1, 7));
        due.is("another row", 4, () -> p.function(0, 1, 8));
        due.is("another result", 5, () -> p.function(0, 2, 7));
        due.is("another argument", 6, () -> p.function(1, 1, 7));
        due.is("of functions", 7, () -> p.function(3, 6, 255));
        due.is("the same", 4, () -> p.function(0, 1, 8));
        due.is("the same of functions", 7, () -> p.function(3, 6, 255));
        due.index("argument too big", () -> p.function(8, 0, 0));
        due.index("argument below 0", () -> p.function(-1, 0, 0));
        due.index("result too big", () -> p.function(0, 8, 0));
        due.index("result below 0", () -> p.function(0, -1, 0));
        due.index("row too big", () -> p.function(0, 0, 256));
        due.index("row below 0", () -> p.function(0, 0, -1));
        due.index("all wrong", () -> p.function(Integer.MIN_VALUE, Integer.MAX_VALUE, Integer.MIN_VALUE));
        due.is("nothing came of these", 8, () -> p.function(7, 7, 0));
    }

    private static void effects() {
        EffectNodes p = withAtoms(1);
        int truth = p.atom(1, 1);
        p.function(0, 0, 0);
        due.index("effect 8", () -> { p.effect(8, 0, 0); return 0; });
        due.index("effect -1", () -> { p.effect(-1, 0, 0); return 0; });
        due.index("given 4", () -> { p.effect(0, 4, 0); return 0; });
        due.index("given -1", () -> { p.effect(0, -1, 0); return 0; });
        due.index("result 4", () -> { p.effect(0, 0, 4); return 0; });
        due.index("result -1", () -> { p.effect(0, 0, -1); return 0; });
        int node = p.perform(0, 0);
        int other = p.perform(7, truth);
        due.is("as it was", "0 | 0 -1 1", () -> Due.checked(p, node));
        due.is("7 takes int", "throws.IllegalArgumentException | 6 1 -1", () -> Due.checked(p, other));
        p.effect(7, 1, 3);
        due.is("7 takes bool, gives a function", "3 | 0 -1 128", () -> Due.checked(p, other));
        p.effect(7, 2, 2);
        due.is("7 takes unit", "throws.IllegalArgumentException | 6 1 -1", () -> Due.checked(p, other));
        p.effect(7, 1, 2);
        due.is("7 gives unit", "2 | 0 -1 128", () -> Due.checked(p, other));
    }

    private static void atoms() {
        EffectNodes p = new EffectNodes();
        due.is("a number", 0, () -> p.atom(0, Integer.MIN_VALUE));
        due.is("false", 1, () -> p.atom(1, 0));
        due.is("true", 2, () -> p.atom(1, 1));
        due.is("nothing", 3, () -> p.atom(2, 77));
        due.is("name 0", 4, () -> p.atom(3, 0));
        due.is("name 9", 5, () -> p.atom(3, 9));
        due.index("kind 4", () -> p.atom(4, 0));
        due.index("kind -1", () -> p.atom(-1, 0));
        due.index("truth 2", () -> p.atom(1, 2));
        due.index("truth -1", () -> p.atom(1, -1));
        due.index("name 10", () -> p.atom(3, 10));
        due.index("name -1", () -> p.atom(3, -1));
        String[] values = {"2 " + Integer.MIN_VALUE, "2 0", "2 1", "2 0"};
        int[] types = {0, 1, 1, 2};
        for (int i = 0; i < 4; i++) {
            int node = i;
            due.is("type of atom " + i, types[i], () -> p.check(node));
            Due.worked(p);
            due.is("value of atom " + i, values[i], () -> p.state(0) + " " + p.state(1));
        }
    }

    private static void lets() {
        EffectNodes p = withAtoms(2);
        due.index("name 10", () -> p.let(10, 0, 0));
        due.index("name -1", () -> p.let(-1, 0, 0));
        due.index("no a", () -> p.let(0, 2, 0));
        due.index("a below", () -> p.let(0, -1, 0));
        due.index("no b", () -> p.let(0, 0, 2));
        due.index("b below", () -> p.let(0, 0, -1));
        due.is("let", 2, () -> p.let(9, 0, 1));
    }

    private static void recs() {
        EffectNodes p = withAtoms(2);
        p.function(0, 0, 0);
        due.index("f 10", () -> p.rec(10, 0, 3, 0, 1));
        due.index("f -1", () -> p.rec(-1, 0, 3, 0, 1));
        due.index("x 10", () -> p.rec(0, 10, 3, 0, 1));
        due.index("x -1", () -> p.rec(0, -1, 3, 0, 1));
        due.index("no such type", () -> p.rec(0, 1, 4, 0, 1));
        due.index("type that is no function", () -> p.rec(0, 1, 2, 0, 1));
        due.index("type below", () -> p.rec(0, 1, -1, 0, 1));
        due.index("no a", () -> p.rec(0, 1, 3, 2, 1));
        due.index("a below", () -> p.rec(0, 1, 3, -1, 1));
        due.index("no b", () -> p.rec(0, 1, 3, 0, 2));
        due.index("b below", () -> p.rec(0, 1, 3, 0, -1));
        due.is("rec", 2, () -> p.rec(0, 1, 3, 0, 1));
    }

    private static void choices() {
        EffectNodes p = withAtoms(2);
        due.index("no a", () -> p.choice(2, 0, 0));
        due.index("a below", () -> p.choice(-1, 0, 0));
        due.index("no b", () -> p.choice(0, 2, 0));
        due.index("b below", () -> p.choice(0, -1, 0));
        due.index("no c", () -> p.choice(0, 0, 2));
        due.index("c below", () -> p.choice(0, 0, -1));
        due.is("choice", 2, () -> p.choice(0, 1, 1));
    }

    private static void fns() {
        EffectNodes p = withAtoms(2);
        due.index("x 10", () -> p.fn(10, 0, 0));
        due.index("x -1", () -> p.fn(-1, 0, 0));
        due.index("type 3", () -> p.fn(0, 3, 0));
        due.index("type -1", () -> p.fn(0, -1, 0));
        due.index("no a", () -> p.fn(0, 0, 2));
        due.index("a below", () -> p.fn(0, 0, -1));
        due.is("fn", 2, () -> p.fn(0, 2, 1));
    }

    private static void clauses() {
        EffectNodes p = withAtoms(2);
        due.index("effect 8", () -> p.clause(8, 0, 0, 0));
        due.index("effect -1", () -> p.clause(-1, 0, 0, 0));
        due.index("x 10", () -> p.clause(0, 10, 0, 0));
        due.index("x -1", () -> p.clause(0, -1, 0, 0));
        due.index("k 10", () -> p.clause(0, 0, 10, 0));
        due.index("k -1", () -> p.clause(0, 0, -1, 0));
        due.index("no a", () -> p.clause(0, 0, 0, 2));
        due.index("a below", () -> p.clause(0, 0, 0, -1));
        due.is("first", 1, () -> p.clause(0, 0, 0, 0));
        due.is("second", 2, () -> p.clause(0, 1, 2, 1));
        p.handle(0, 0, 0, 0);
        for (int i = 1; i <= 38; i++) {
            int many = i;
            due.is("ready ones", many, () -> p.clause(7, 9, 9, 0));
        }
        due.illegalState("a 41st", () -> p.clause(7, 9, 9, 0));
        due.index("a wrong 41st", () -> p.clause(8, 9, 9, 0));
        p.handle(0, 0, 0, 0);
        due.illegalState("a 41st, none ready", () -> p.clause(7, 9, 9, 0));
    }

    private static void handles() {
        EffectNodes p = withAtoms(2);
        p.clause(3, 0, 1, 0);
        due.index("no a", () -> p.handle(2, 0, 0, 0));
        due.index("a below", () -> p.handle(-1, 0, 0, 0));
        due.index("row 256", () -> p.handle(0, 256, 0, 0));
        due.index("row -1", () -> p.handle(0, -1, 0, 0));
        due.index("x 10", () -> p.handle(0, 0, 10, 0));
        due.index("x -1", () -> p.handle(0, 0, -1, 0));
        due.index("no b", () -> p.handle(0, 0, 0, 2));
        due.index("b below", () -> p.handle(0, 0, 0, -1));
        due.is("the clause is still ready", 2, () -> p.clause(4, 0, 1, 1));
        int body = p.two(0, p.perform(3, 0), p.perform(4, 0));
        int both = p.handle(body, 0, 0, 0);
        due.is("its number", 5, () -> both);
        due.is("both clauses are its own", "0 | 0 -1 0", () -> Due.checked(p, both));
        int none = p.handle(body, 0, 0, 0);
        due.is("none were left", "throws.IllegalArgumentException | 7 4 -1", () -> Due.checked(p, none));
        due.is("ready ones are counted anew", 1, () -> p.clause(0, 0, 0, 0));
    }

    private static void twos() {
        EffectNodes p = withAtoms(2);
        due.index("sign 5", () -> p.two(5, 0, 0));
        due.index("sign -1", () -> p.two(-1, 0, 0));
        due.index("no a", () -> p.two(0, 2, 0));
        due.index("a below", () -> p.two(0, -1, 0));
        due.index("no b", () -> p.two(0, 0, 2));
        due.index("b below", () -> p.two(0, 0, -1));
        due.is("two", 2, () -> p.two(4, 1, 1));
    }

    private static void calls() {
        EffectNodes p = withAtoms(2);
        due.index("no a", () -> p.call(2, 0));
        due.index("a below", () -> p.call(-1, 0));
        due.index("no b", () -> p.call(0, 2));
        due.index("b below", () -> p.call(0, -1));
        due.is("call", 2, () -> p.call(0, 1));
    }

    private static void performs() {
        EffectNodes p = withAtoms(2);
        due.index("effect 8", () -> p.perform(8, 0));
        due.index("effect -1", () -> p.perform(-1, 0));
        due.index("no a", () -> p.perform(0, 2));
        due.index("a below", () -> p.perform(0, -1));
        due.is("perform", 2, () -> p.perform(7, 1));
    }

    private static void fullOfNodes() {
        EffectNodes p = withAtoms(199);
        p.function(0, 0, 0);
        due.is("the 200th", 199, () -> p.two(0, 0, 198));
        due.illegalState("atom", () -> p.atom(0, 0));
        due.illegalState("let", () -> p.let(0, 0, 0));
        due.illegalState("rec", () -> p.rec(0, 0, 3, 0, 0));
        due.illegalState("choice", () -> p.choice(0, 0, 0));
        due.illegalState("fn", () -> p.fn(0, 0, 0));
        due.illegalState("two", () -> p.two(0, 0, 0));
        due.illegalState("call", () -> p.call(0, 0));
        due.illegalState("perform", () -> p.perform(0, 0));
        due.is("a clause is no node", 1, () -> p.clause(0, 0, 0, 199));
        due.illegalState("handle", () -> p.handle(0, 0, 0, 0));
        due.is("its clause is still ready", 2, () -> p.clause(0, 0, 0, 199));
        due.index("wrong atom", () -> p.atom(4, 0));
        due.index("wrong let", () -> p.let(0, 0, 200));
        due.index("wrong rec", () -> p.rec(0, 0, 2, 0, 0));
        due.index("wrong choice", () -> p.choice(0, 0, 200));
        due.index("wrong fn", () -> p.fn(0, 4, 0));
        due.index("wrong two", () -> p.two(5, 0, 0));
        due.index("wrong call", () -> p.call(0, 200));
        due.index("wrong perform", () -> p.perform(8, 0));
        due.index("wrong handle", () -> p.handle(0, 256, 0, 0));
        due.is("the last one is whole", "0 | 0 -1 0", () -> Due.checked(p, 199));
    }

    private static void fullOfTypes() {
        EffectNodes p = new EffectNodes();
        for (int i = 0; i < 60; i++) {
            int row = i;
            due.is("type " + i, 3 + i, () -> p.function(0, 0, row));
        }
        due.illegalState("a 61st", () -> p.function(0, 0, 60));
        due.is("one of the 60", 3 + 59, () -> p.function(0, 0, 59));
        due.index("a wrong 61st", () -> p.function(63, 0, 0));
        due.index("a 61st with a wrong row", () -> p.function(0, 0, 256));
    }
}
