/** Promises 1 to 14 at their edges: too small, too big, empty, full, and what a refused call leaves. */
final class TellingEdgesTest {
    private static final Due due = new Due("TellingEdgesTest");
    private static final Edges edges = new Edges(due);
    private static final int MIN = Edges.MIN;
    private static final int MAX = Edges.MAX;

    // What few() has not: the first ones beyond, and those from which an index could wrap around.
    private static final int[] NO_NODES = {MIN, -10, -1, 10, 11, 199, 200, 256, 65536, MAX};
    private static final int[] NO_NAMES = {MIN, -1, 10, 16, 256, MAX};
    private static final int[] NO_EFFECTS = {MIN, -1, 8, 32, 256, MAX};
    private static final int[] NO_TYPES = {MIN, -1, 5, 62, 63, 256, MAX};
    private static final int[] NO_ROWS = {MIN, -256, -1, 256, 257, 65536, MAX};

    public static void main(String[] args) {
        newObject();
        clearing();
        functions();
        sixtyFunctions();
        effects();
        atoms();
        lets();
        recs();
        choices();
        fns();
        clauses();
        fortyClauses();
        handles();
        twos();
        calls();
        performs();
        lastNode();
        fullOfNodes();
        wrongAndFull();
        due.end();
    }

    private static void index(String what, Edges.Ask ask) {
        edges.refused(what, Edges.INDEX, Edges::few, ask);
    }

    private static void accepted(String what, Object want, Edges.Ask ask) {
        edges.accepted(what, want, Edges::few, ask);
    }

    // Promises 1 and 2.

    private static void newObject() {
        Edges.Maker made = EffectNodes::new;
        edges.accepted("no program, no fault", "0 -1 0 0 0 0 0 0 -1", made, p -> Due.faults(p) + " " + Due.states(p));
        for (int t = -1; t <= 63; t++) {
            int type = t;
            edges.accepted("no function type " + t, t + " -1 -1 -1", made, p -> told(p, type));
            edges.accepted("type " + t + " is there", t >= 0 && t <= 2, made, p -> p.fits(type, type));
        }
        edges.refused("no node to check", Edges.INDEX, made, p -> p.check(0));
        edges.refused("no node for a let", Edges.INDEX, made, p -> p.let(0, 0, 0));
        edges.refused("no node for a clause", Edges.INDEX, made, p -> p.clause(0, 0, 0, 0));
        edges.refused("no node for a handle", Edges.INDEX, made, p -> p.handle(0, 0, 0, 0));
        edges.refused("no node for a PERFORM", Edges.INDEX, made, p -> p.perform(0, 0));
        Edges.Maker withNumber = () -> {
            EffectNodes p = new EffectNodes();
            p.atom(0, 1);
            return p;
        };
        edges.refused("no function type for a rec", Edges.INDEX, withNumber, p -> p.rec(0, 1, 3, 0, 0));
        edges.refused("no program to start", Edges.STATE, made, p -> {
            p.start();
            return 0;
        });
        edges.refused("none to run", Edges.STATE, made, p -> p.run(0));
        edges.accepted("no node told: the first is 0", 0, made, p -> p.atom(0, 0));
        edges.accepted("no function type told: the first is 3", 3, made, p -> p.function(0, 0, 0));
        edges.accepted("no clause is ready", 1, made, p -> p.clause(0, 0, 0, p.atom(0, 0)));
    }

    /** Cleared in any state, an object goes on just as a new one. */
    private static void clearing() {
        String fresh = Edges.allOf(new EffectNodes());
        Edges.Maker[] makers = {EffectNodes::new, Edges::few, () -> Edges.withNodes(200), () -> Edges.withTypes(60),
            TellingEdgesTest::fortyReady, TellingEdgesTest::fortyHandled, TellingEdgesTest::allEffects,
            TellingEdgesTest::withFault, TellingEdgesTest::ended};
        for (int i = 0; i < makers.length; i++) {
            edges.accepted("cleared " + i, fresh, makers[i], p -> {
                p.clear();
                return Edges.allOf(p);
            });
            edges.accepted("cleared twice " + i, fresh, makers[i], p -> {
                p.clear();
                p.clear();
                return Edges.allOf(p);
            });
        }
        edges.accepted("200 nodes again", 199, () -> Edges.withNodes(200), p -> {
            p.clear();
            int last = -1;
            for (int i = 0; i < 200; i++) {
                last = p.atom(0, i);
            }
            return last;
        });
        edges.accepted("60 function types again", "62 throws.IllegalStateException", () -> Edges.withTypes(60), p -> {
            p.clear();
            int last = -1;
            for (int row = 0; row < 60; row++) {
                last = p.function(1, 1, row);
            }
            return last + " " + Due.answerOf(() -> p.function(1, 1, 60));
        });
        edges.accepted("40 clauses again", "40 throws.IllegalStateException", TellingEdgesTest::fortyHandled, p -> {
            p.clear();
            p.atom(0, 1);
            int last = -1;
            for (int i = 0; i < 40; i++) {
                last = p.clause(0, 0, 0, 0);
            }
            return last + " " + Due.answerOf(() -> p.clause(0, 0, 0, 0));
        });
        edges.accepted("all effects give int again", "0 0 0 0 0 0 0 0", TellingEdgesTest::allEffects, p -> {
            p.clear();
            return givenByEffects(p);
        });
        edges.accepted("which types fit is forgotten, too", "false true", Edges::few, p -> {
            int none = p.function(0, 0, 1);
            p.fits(3, none);
            p.clear();
            int more = p.function(0, 0, 9);
            int fewer = p.function(0, 0, 8);
            return p.fits(more, fewer) + " " + p.fits(fewer, more);
        });
    }

    /** What each effect gives, as the argument's type of its continuation, which check() numbers. */
    private static String givenByEffects(EffectNodes p) {
        StringBuilder all = new StringBuilder();
        int one = p.atom(0, 1);
        for (int e = 0; e < 8; e++) {
            p.clause(e, 0, 1, one);
            p.check(p.handle(one, 1 << e, 0, one));
            all.append(e == 0 ? "" : " ").append(p.type(3 + e, 0));
        }
        return all.toString();
    }

    private static EffectNodes fortyReady() {
        EffectNodes p = Edges.few();
        for (int ready = 2; ready <= 39; ready++) {
            p.clause(ready % 8, 0, 1, 0);
        }
        return p;
    }

    private static EffectNodes fortyHandled() {
        EffectNodes p = Edges.few();
        p.handle(0, 0, 0, 0);
        for (int all = 3; all <= 40; all++) {
            p.clause(all % 8, 0, 1, 0);
            if (all % 8 == 0) {
                p.handle(0, 0, 0, 0);
            }
        }
        return p;
    }

    private static EffectNodes allEffects() {
        EffectNodes p = Edges.few();
        for (int e = 0; e < 8; e++) {
            p.effect(e, 3, 4);
        }
        return p;
    }

    private static EffectNodes withFault() {
        EffectNodes p = Edges.few();
        Due.answerOf(() -> p.check(3));
        return p;
    }

    private static EffectNodes ended() {
        EffectNodes p = Edges.few();
        p.check(4);
        p.start();
        p.run(200);
        return p;
    }

    // Promises 3 and 4.

    private static void functions() {
        for (int bad : NO_TYPES) {
            index("function: argument " + bad, p -> p.function(bad, 0, 0));
            index("function: result " + bad, p -> p.function(0, bad, 0));
        }
        for (int bad : NO_ROWS) {
            index("function: row " + bad, p -> p.function(0, 0, bad));
            index("function: row " + bad + " of one told", p -> p.function(1, 2, bad));
        }
        accepted("argument: the last type", "5 4 0 0", p -> told(p, p.function(4, 0, 0)));
        accepted("result: the last type", "5 0 4 0", p -> told(p, p.function(0, 4, 0)));
        accepted("the biggest row", "5 0 0 255", p -> told(p, p.function(0, 0, 255)));
        accepted("the smallest row", "5 2 2 0", p -> told(p, p.function(2, 2, 0)));
        accepted("the same for the first", 3, p -> p.function(0, 0, 0));
        accepted("the same for the last", 4, p -> p.function(1, 2, 255));
        accepted("of itself, once told", "5 6", p -> p.function(4, 4, 1) + " " + p.function(5, 5, 1));
        accepted("another row, argument, or result is another one", "5 6 7", p ->
                p.function(1, 2, 254) + " " + p.function(0, 2, 255) + " " + p.function(1, 1, 255));
    }

    private static String told(EffectNodes p, int type) {
        return type + " " + p.type(type, 0) + " " + p.type(type, 1) + " " + p.type(type, 2);
    }

    private static void sixtyFunctions() {
        Edges.Maker full = () -> Edges.withTypes(60);
        Edges.Maker nearlyFull = () -> Edges.withTypes(59);
        edges.accepted("the 60th", 62, nearlyFull, p -> p.function(2, 2, 0));
        edges.refused("a 61st", Edges.STATE, full, p -> p.function(2, 2, 0));
        edges.refused("a 61st of the last one", Edges.STATE, full, p -> p.function(62, 62, 0));
        edges.refused("argument 63 with 60", Edges.INDEX, full, p -> p.function(63, 0, 0));
        edges.refused("result 63 with 60", Edges.INDEX, full, p -> p.function(0, 63, 0));
        edges.refused("row 256 with 60", Edges.INDEX, full, p -> p.function(0, 0, 256));
        edges.accepted("the same for the first of 60", 3, full, p -> p.function(0, 0, 0));
        edges.accepted("the same for the last of 60", 62, full, p -> p.function(0, 0, 58));
        edges.accepted("the 60th came of checking", "62 throws.IllegalStateException", nearlyFull, p ->
                p.check(p.fn(0, 2, 2)) + " " + Due.answerOf(() -> p.function(2, 2, 1)));
        edges.accepted("the 60th came of checking: the same", 62, nearlyFull, p -> {
            p.check(p.fn(0, 2, 2));
            return p.function(2, 2, 0);
        });
    }

    private static void effects() {
        for (int bad : NO_EFFECTS) {
            index("effect " + bad, p -> declare(p, bad, 0, 0));
        }
        for (int bad : NO_TYPES) {
            index("effect: given " + bad, p -> declare(p, 7, bad, 0));
            index("effect: result " + bad, p -> declare(p, 7, 0, bad));
        }
        for (int e : new int[] {0, 7}) {
            for (int type : new int[] {0, 1, 2}) {
                accepted("effect " + e + " takes " + type, "4 | 0 -1 " + (1 << e), p -> {
                    declare(p, e, type, 4);
                    return Due.checked(p, p.perform(e, type));
                });
            }
            accepted("effect " + e + " takes and gives the last type", "4 | 0 -1 " + (1 << e), p -> {
                declare(p, e, 4, 4);
                return Due.checked(p, p.perform(e, p.fn(0, 1, 2)));
            });
        }
        accepted("the others stay", "0 | 0 -1 64, 2 | 0 -1 128", p -> {
            declare(p, 0, 2, 2);
            return Due.checked(p, p.perform(6, 0)) + ", " + Due.checked(p, p.perform(7, 1));
        });
        accepted("effects are declared of no node, type or clause", "10 5 2", p -> {
            declare(p, 0, 2, 2);
            return p.atom(0, 0) + " " + p.function(2, 2, 2) + " " + p.clause(0, 0, 0, 0);
        });
    }

    private static int declare(EffectNodes p, int e, int given, int result) {
        p.effect(e, given, result);
        return 0;
    }

    // Promises 5 to 9.

    private static void atoms() {
        for (int bad : new int[] {MIN, -1, 4, 11, MAX}) {
            index("atom: kind " + bad, p -> p.atom(bad, 0));
        }
        for (int bad : new int[] {MIN, -1, 2, 3, 256, MAX}) {
            index("atom: truth " + bad, p -> p.atom(1, bad));
        }
        for (int bad : NO_NAMES) {
            index("atom: name " + bad, p -> p.atom(3, bad));
        }
        for (int number : new int[] {MIN, MIN + 1, -1, 0, 1, MAX - 1, MAX}) {
            accepted("atom: number " + number, "10: 0, 2 " + number, p -> worked(p, p.atom(0, number)));
            accepted("atom: nothing " + number, "10: 2, 2 0", p -> worked(p, p.atom(2, number)));
        }
        accepted("atom: false", "10: 1, 2 0", p -> worked(p, p.atom(1, 0)));
        accepted("atom: true", "10: 1, 2 1", p -> worked(p, p.atom(1, 1)));
        accepted("atom: name 0", "11: 0, 2 1", p -> worked(p, p.let(0, 0, p.atom(3, 0))));
        accepted("atom: name 9", "11: 0, 2 1", p -> worked(p, p.let(9, 0, p.atom(3, 9))));
    }

    /** A node, its type, and how it ends. */
    private static String worked(EffectNodes p, int node) {
        int type = p.check(node);
        Due.worked(p);
        return node + ": " + type + ", " + p.state(0) + " " + p.state(1);
    }

    private static void lets() {
        for (int bad : NO_NAMES) {
            index("let: name " + bad, p -> p.let(bad, 0, 0));
        }
        for (int bad : NO_NODES) {
            index("let: a " + bad, p -> p.let(0, bad, 0));
            index("let: b " + bad, p -> p.let(0, 0, bad));
        }
        accepted("let: the first of all", "10: 0, 2 1", p -> worked(p, p.let(0, 0, 0)));
        accepted("let: the last of all", "10: 0, 2 2", p -> worked(p, p.let(9, 9, 9)));
    }

    private static void recs() {
        for (int bad : NO_NAMES) {
            index("rec: f " + bad, p -> p.rec(bad, 0, 3, 0, 0));
            index("rec: x " + bad, p -> p.rec(0, bad, 3, 0, 0));
        }
        for (int bad : NO_TYPES) {
            index("rec: function " + bad, p -> p.rec(0, 1, bad, 0, 0));
        }
        for (int bad : new int[] {0, 1, 2}) {
            index("rec: type " + bad + " is no function", p -> p.rec(0, 1, bad, 0, 0));
        }
        for (int bad : NO_NODES) {
            index("rec: a " + bad, p -> p.rec(0, 1, 3, bad, 0));
            index("rec: b " + bad, p -> p.rec(0, 1, 3, 0, bad));
        }
        accepted("rec: the first of all", "10: 0, 2 1", p -> worked(p, p.rec(0, 0, 3, 0, 0)));
        accepted("rec: the last of all", "10: 0, 2 2", p -> worked(p, p.rec(9, 9, 4, 2, 9)));
    }

    private static void choices() {
        for (int bad : NO_NODES) {
            index("choice: a " + bad, p -> p.choice(bad, 0, 0));
            index("choice: b " + bad, p -> p.choice(1, bad, 0));
            index("choice: c " + bad, p -> p.choice(1, 0, bad));
        }
        accepted("choice: the first as a part", "10: 0, 2 1", p -> worked(p, p.choice(1, 0, 0)));
        accepted("choice: the last as a part", "10: 0, 2 2", p -> worked(p, p.choice(1, 9, 9)));
        accepted("choice: the last as the first part", "11: 0, 2 1", p -> worked(p, p.choice(p.atom(1, 1), 0, 0)));
    }

    private static void fns() {
        for (int bad : NO_NAMES) {
            index("fn: name " + bad, p -> p.fn(bad, 0, 0));
        }
        for (int bad : NO_TYPES) {
            index("fn: type " + bad, p -> p.fn(0, bad, 0));
        }
        for (int bad : NO_NODES) {
            index("fn: a " + bad, p -> p.fn(0, 0, bad));
        }
        accepted("fn: the first of all", "10: 3, 2 0", p -> worked(p, p.fn(0, 0, 0)));
        accepted("fn: the last of all", "10: 5, 2 0", p -> worked(p, p.fn(9, 4, 9)));
        accepted("fn: of each type", "5 6 7", p ->
                p.check(p.fn(9, 1, 9)) + " " + p.check(p.fn(9, 2, 9)) + " " + p.check(p.fn(9, 3, 9)));
    }

    // Promises 10 and 11.

    private static void clauses() {
        for (int bad : NO_EFFECTS) {
            index("clause: effect " + bad, p -> p.clause(bad, 0, 0, 0));
        }
        for (int bad : NO_NAMES) {
            index("clause: x " + bad, p -> p.clause(0, bad, 0, 0));
            index("clause: k " + bad, p -> p.clause(0, 0, bad, 0));
        }
        for (int bad : NO_NODES) {
            index("clause: a " + bad, p -> p.clause(0, 0, 0, bad));
        }
        accepted("clause: the first of all", 2, p -> p.clause(0, 0, 0, 0));
        accepted("clause: the last of all", 2, p -> p.clause(7, 9, 9, 9));
        accepted("clause: no node is told by it", 10, p -> {
            p.clause(7, 9, 9, 9);
            return p.atom(0, 1);
        });
        accepted("clause: none are ready behind a handle", 1, p -> {
            p.handle(0, 0, 0, 0);
            return p.clause(0, 0, 0, 0);
        });
        accepted("clause: two for one effect are told all the same", "2 3 10", p ->
                p.clause(3, 0, 1, 0) + " " + p.clause(3, 0, 1, 0) + " " + p.handle(0, 0, 0, 0));
    }

    private static void fortyClauses() {
        Edges.Maker nearlyReady = () -> {
            EffectNodes p = Edges.few();
            for (int ready = 2; ready <= 38; ready++) {
                p.clause(ready % 8, 0, 1, 0);
            }
            return p;
        };
        edges.accepted("the 40th, 39 of them ready", 39, nearlyReady, p -> p.clause(0, 0, 0, 0));
        edges.refused("a 41st, 39 are ready", Edges.STATE, TellingEdgesTest::fortyReady, p -> p.clause(0, 0, 0, 0));
        edges.refused("a 41st, none is ready", Edges.STATE, TellingEdgesTest::fortyHandled, p -> p.clause(0, 0, 0, 0));
        edges.refused("effect 8 with 40", Edges.INDEX, TellingEdgesTest::fortyReady, p -> p.clause(8, 0, 0, 0));
        edges.refused("x 10 with 40", Edges.INDEX, TellingEdgesTest::fortyReady, p -> p.clause(0, 10, 0, 0));
        edges.refused("k 10 with 40", Edges.INDEX, TellingEdgesTest::fortyReady, p -> p.clause(0, 0, 10, 0));
        edges.refused("no node with 40", Edges.INDEX, TellingEdgesTest::fortyReady, p -> p.clause(0, 0, 0, 10));
        edges.accepted("a handle takes 39 and leaves none free", "10 throws.IllegalStateException",
                TellingEdgesTest::fortyReady, p -> p.handle(0, 0, 0, 0) + " " + Due.answerOf(() -> p.clause(0, 0, 0, 0)));
        edges.accepted("a handle without clauses is told with 40", true, TellingEdgesTest::fortyHandled, p ->
                p.handle(0, 0, 0, 0) > 0);
        edges.accepted("all 40 ready of a new object", "40 throws.IllegalStateException 1", EffectNodes::new, p -> {
            p.atom(0, 1);
            int last = -1;
            for (int i = 0; i < 40; i++) {
                last = p.clause(i % 8, i % 10, 9 - i % 10, 0);
            }
            return last + " " + Due.answerOf(() -> p.clause(0, 0, 0, 0)) + " " + p.handle(0, 0, 0, 0);
        });
    }

    private static void handles() {
        for (int bad : NO_NODES) {
            index("handle: a " + bad, p -> p.handle(bad, 0, 0, 0));
            index("handle: b " + bad, p -> p.handle(0, 0, 0, bad));
        }
        for (int bad : NO_ROWS) {
            index("handle: row " + bad, p -> p.handle(0, bad, 0, 0));
        }
        for (int bad : NO_NAMES) {
            index("handle: x " + bad, p -> p.handle(0, 0, bad, 0));
        }
        accepted("handle: the first of all", "0 | 0 -1 0", p -> Due.checked(p, p.handle(0, 0, 0, 0)));
        accepted("handle: the last of all", "0 | 0 -1 255", p -> Due.checked(p, p.handle(9, 255, 9, 9)));
        accepted("handle: the ready ones are its own alone", "0 | 0 -1 0, throws.IllegalArgumentException | 7 10 -1", p -> {
            int body = p.perform(1, 0);
            int with = p.handle(body, 0, 0, 0);
            int without = p.handle(body, 0, 0, 0);
            return Due.checked(p, with) + ", " + Due.checked(p, without);
        });
    }

    // Promises 12 to 14.

    private static void twos() {
        for (int bad : new int[] {MIN, -1, 5, 6, 256, MAX}) {
            index("two: sign " + bad, p -> p.two(bad, 0, 0));
        }
        for (int bad : NO_NODES) {
            index("two: a " + bad, p -> p.two(0, bad, 0));
            index("two: b " + bad, p -> p.two(0, 0, bad));
        }
        accepted("two: the first of all", "10: 0, 2 2", p -> worked(p, p.two(0, 0, 0)));
        accepted("two: the last of all", "10: 1, 2 1", p -> worked(p, p.two(4, 9, 9)));
    }

    private static void calls() {
        for (int bad : NO_NODES) {
            index("call: a " + bad, p -> p.call(bad, 0));
            index("call: b " + bad, p -> p.call(0, bad));
        }
        accepted("call: the last as its first", "11: 0, 2 1", p -> worked(p, p.call(p.fn(0, 0, 8), 0)));
        accepted("call: the last as its second", "12: 0, 2 3", p -> {
            int function = p.fn(0, 0, 8);
            return worked(p, p.call(function, p.atom(0, 3)));
        });
        accepted("call: the first of all is told", 10, p -> p.call(0, 0));
    }

    private static void performs() {
        for (int bad : NO_EFFECTS) {
            index("perform: effect " + bad, p -> p.perform(bad, 0));
        }
        for (int bad : NO_NODES) {
            index("perform: a " + bad, p -> p.perform(0, bad));
        }
        accepted("perform: the first of all", "0 | 0 -1 1", p -> Due.checked(p, p.perform(0, 0)));
        accepted("perform: the last of all", "2 | 0 -1 128", p -> Due.checked(p, p.perform(7, p.two(4, 9, 9))));
    }

    // The 200 nodes of promises 5 to 9 and 11 to 14.

    private static final String[] KINDS = {"number", "truth", "nothing", "name", "let", "rec", "choice", "fn", "handle",
        "two", "call", "perform"};

    /** A node of each kind, made of the nodes 0 and last. */
    private static int node(EffectNodes p, int kind, int last) {
        switch (kind) {
            case 4:
                return p.let(0, 0, last);
            case 5:
                return p.rec(0, 0, 3, 0, last);
            case 6:
                return p.choice(1, 0, last);
            case 7:
                return p.fn(0, 0, last);
            case 8:
                return p.handle(0, 0, 0, last);
            case 9:
                return p.two(0, 0, last);
            case 10:
                return p.call(0, last);
            case 11:
                return p.perform(0, last);
            default:
                return p.atom(kind, 0);
        }
    }

    private static void lastNode() {
        for (int i = 0; i < KINDS.length; i++) {
            int kind = i;
            Edges.Maker nearlyFull = () -> Edges.withNodes(199);
            edges.accepted("the 200th: " + KINDS[i], 199, nearlyFull, p -> node(p, kind, 198));
            edges.accepted("a 201st behind a " + KINDS[i], Edges.STATE, nearlyFull, p -> {
                node(p, kind, 198);
                return Due.answerOf(() -> node(p, kind, 199));
            });
            if (kind >= 4) {
                edges.refused("node 199 is not there for a " + KINDS[i], Edges.INDEX, nearlyFull, p -> node(p, kind, 199));
            }
        }
    }

    private static void fullOfNodes() {
        for (int i = 0; i < KINDS.length; i++) {
            int kind = i;
            edges.refused("a 201st: " + KINDS[i], Edges.STATE, () -> Edges.withNodes(200), p -> node(p, kind, 199));
        }
        edges.accepted("clauses are told with 200", 2, () -> Edges.withNodes(200), p -> p.clause(0, 0, 0, 199));
        edges.accepted("function types are told with 200", 5, () -> Edges.withNodes(200), p -> p.function(2, 2, 2));
        edges.accepted("the last of 200 is checked", "199: 0, 2 2", () -> Edges.withNodes(199), p -> worked(p, p.two(0, 0, 0)));
        edges.accepted("a refused handle keeps its clauses", "2 3", () -> Edges.withNodes(200), p -> {
            int before = p.clause(2, 0, 0, 0);
            Due.answerOf(() -> p.handle(0, 0, 0, 0));
            return before + " " + p.clause(3, 0, 0, 0);
        });
    }

    /** What is wrong and finds no room: IndexOutOfBoundsException is told first. */
    private static void wrongAndFull() {
        Edges.Ask[] asks = {p -> p.atom(4, 0), p -> p.atom(-1, 0), p -> p.atom(1, 2), p -> p.atom(3, 10),
            p -> p.let(10, 0, 0), p -> p.let(0, 200, 0), p -> p.let(0, 0, 200), p -> p.rec(10, 0, 3, 0, 0),
            p -> p.rec(0, 10, 3, 0, 0), p -> p.rec(0, 0, 2, 0, 0), p -> p.rec(0, 0, 5, 0, 0), p -> p.rec(0, 0, 3, 200, 0),
            p -> p.rec(0, 0, 3, 0, 200), p -> p.choice(200, 0, 0), p -> p.choice(0, 200, 0), p -> p.choice(0, 0, 200),
            p -> p.fn(10, 0, 0), p -> p.fn(0, 5, 0), p -> p.fn(0, 0, 200), p -> p.handle(200, 0, 0, 0),
            p -> p.handle(0, 256, 0, 0), p -> p.handle(0, 0, 10, 0), p -> p.handle(0, 0, 0, 200), p -> p.two(5, 0, 0),
            p -> p.two(0, 200, 0), p -> p.two(0, 0, 200), p -> p.call(200, 0), p -> p.call(0, 200), p -> p.perform(8, 0),
            p -> p.perform(0, 200)};
        for (int i = 0; i < asks.length; i++) {
            edges.refused("wrong and full " + i, Edges.INDEX, () -> Edges.withNodes(200), asks[i]);
        }
    }
}
