/** Promises 15 to 18 at their edges: what is refused, what it leaves, and the last that is not refused. */
final class CheckingEdgesTest {
    private static final Due due = new Due("CheckingEdgesTest");
    private static final Edges edges = new Edges(due);
    private static final int MIN = Edges.MIN;
    private static final int MAX = Edges.MAX;
    private static final String BAD = Edges.ARGUMENT + " | ";
    private static final int[] NO_WHATS = {MIN, -2, -1, 3, 4, 256, MAX};

    public static void main(String[] args) {
        nodes();
        sizes();
        hugeSizes();
        depths();
        faultsAndEffectsOfParts();
        refusedAheadOfFaults();
        faultsDropTheProgram();
        faultsLeaveTheRest();
        goodOnesAreNotBegun();
        sixtyTypes();
        sixtyTypesOfOneProgram();
        sixtyTypesWithContinuations();
        rowsOfRecs();
        rowsOfHandles();
        nineClauses();
        justTheType();
        faults();
        otherFaults();
        types();
        fits();
        fitsByRows();
        due.end();
    }

    // Promise 15.

    private static void nodes() {
        for (int bad : new int[] {MIN, -10, -1, 10, 11, 199, 200, 256, MAX}) {
            edges.refused("check: node " + bad, Edges.INDEX, Edges::few, p -> p.check(bad));
            edges.refused("check behind a fault: node " + bad, Edges.INDEX, CheckingEdgesTest::withFault, p -> p.check(bad));
        }
        edges.accepted("check: the first node", "0 | 0 -1 0", Edges::few, p -> Due.checked(p, 0));
        edges.accepted("check: the last node", "0 | 0 -1 0", Edges::few, p -> Due.checked(p, 9));
        edges.accepted("check: the last of 200", "0 | 0 -1 0", () -> Edges.withNodes(200), p -> Due.checked(p, 199));
        edges.refused("check: node 200", Edges.INDEX, () -> Edges.withNodes(200), p -> p.check(200));
    }

    private static EffectNodes withFault() {
        EffectNodes p = Edges.few();
        Due.answerOf(() -> p.check(3));
        return p;
    }

    /** An int EXPR of just so many nodes. */
    private static int ofSize(EffectNodes p, int size) {
        if (size == 1) {
            return 0;
        }
        if (size % 2 == 0) {
            return p.perform(0, ofSize(p, size - 1));
        }
        int half = ofSize(p, size / 2);
        return p.two(0, half, half);
    }

    /** An int EXPR that is just so deep. */
    private static int ofDepth(EffectNodes p, int depth) {
        int node = 0;
        for (int i = 1; i < depth; i++) {
            node = p.perform(0, node);
        }
        return node;
    }

    private static final String[] KINDS = {"let", "rec", "choice", "fn", "handle", "two", "call", "perform"};

    /** An EXPR of a kind with just so many nodes; the handle has the clause of few(), of one node. */
    private static int kindOfSize(EffectNodes p, int kind, int size) {
        switch (kind) {
            case 0:
                return p.let(0, ofSize(p, 199), ofSize(p, size - 200));
            case 1:
                return p.rec(0, 1, p.function(0, 0, 255), ofSize(p, 199), ofSize(p, size - 200));
            case 2:
                return p.choice(1, ofSize(p, 199), ofSize(p, size - 201));
            case 3:
                return p.fn(0, 0, ofSize(p, size - 1));
            case 4:
                return p.handle(ofSize(p, 199), 255, 0, ofSize(p, size - 201));
            case 5:
                return p.two(0, ofSize(p, 199), ofSize(p, size - 200));
            case 6:
                return p.call(p.fn(0, 0, ofSize(p, 199)), ofSize(p, size - 201));
            default:
                return p.perform(0, ofSize(p, size - 1));
        }
    }

    /** A node that an object of few() has, once it has been told, is refused and leaves all as it was. */
    private static void tooMuch(String what, Edges.Ask telling) {
        int node = (Integer) telling.of(Edges.few());
        edges.refused(what, Edges.STATE, () -> {
            EffectNodes p = Edges.few();
            telling.of(p);
            return p;
        }, p -> p.check(node));
    }

    private static void sizes() {
        for (int i = 0; i < KINDS.length; i++) {
            int kind = i;
            edges.accepted("400 nodes: " + KINDS[i], true, Edges::few, p -> p.check(kindOfSize(p, kind, 400)) >= 0);
            tooMuch("401 nodes: " + KINDS[i], p -> kindOfSize(p, kind, 401));
        }
        edges.accepted("400 nodes with a big clause", true, Edges::few, p -> p.check(bigClause(p, 400)) >= 0);
        tooMuch("401 nodes with a big clause", p -> bigClause(p, 401));
        edges.accepted("400 nodes, three times the same", true, Edges::few, p -> {
            int same = ofSize(p, 133);
            return p.check(p.two(0, p.let(0, same, same), ofSize(p, 132))) >= 0;
        });
        tooMuch("401 nodes, three times the same", p -> {
            int same = ofSize(p, 133);
            return p.two(0, p.let(0, same, same), same);
        });
    }

    private static int bigClause(EffectNodes p, int size) {
        p.clause(0, 0, 1, ofSize(p, size - 4));
        return p.handle(0, 255, 0, 0);
    }

    /** Nodes that double each time: their size wraps around in an int. */
    private static void hugeSizes() {
        for (int i : new int[] {9, 15, 16, 30, 31, 32, 33, 63, 64, 65}) {
            tooMuch("2 to the " + i, p -> {
                int node = 0;
                for (int j = 0; j < i; j++) {
                    node = p.two(0, node, node);
                }
                return node;
            });
        }
        tooMuch("190 doublings", p -> {
            int node = 0;
            for (int j = 0; j < 190; j++) {
                node = p.let(0, node, node);
            }
            return node;
        });
        tooMuch("190 deep", p -> ofDepth(p, 191));
    }

    private static final String[] PARTS = {"let a", "let b", "rec a", "rec b", "choice a", "choice b", "choice c", "fn a",
        "handle a", "handle b", "clause", "two a", "two b", "call a", "call b", "perform a"};

    /** An EXPR with a given int EXPR as one of its parts, or in a part that must be a bool or a function. */
    private static int withPart(EffectNodes p, int part, int node) {
        switch (part) {
            case 0:
                return p.let(0, node, 0);
            case 1:
                return p.let(0, 0, node);
            case 2:
                return p.rec(0, 1, p.function(0, 0, 255), node, 0);
            case 3:
                return p.rec(0, 1, p.function(0, 0, 255), 0, node);
            case 4:
                return p.choice(p.two(3, node, 0), 0, 0);
            case 5:
                return p.choice(1, node, 0);
            case 6:
                return p.choice(1, 0, node);
            case 7:
                return p.fn(0, 0, node);
            case 8:
                return p.handle(node, 255, 0, 0);
            case 9:
                return p.handle(0, 255, 0, node);
            case 10:
                p.clause(0, 0, 1, node);
                return p.handle(0, 255, 0, 0);
            case 11:
                return p.two(0, node, 0);
            case 12:
                return p.two(0, 0, node);
            case 13:
                return p.call(p.let(2, node, p.fn(0, 0, 0)), 0);
            case 14:
                return p.call(p.fn(0, 0, 0), node);
            default:
                return p.perform(0, node);
        }
    }

    /** An EXPR that is just so deep by one of its parts. */
    private static int partOfDepth(EffectNodes p, int part, int depth) {
        boolean isInPart = part == 4 || part == 13;
        return withPart(p, part, ofDepth(p, depth - (isInPart ? 2 : 1)));
    }

    /** The faults and effects of each part are those of the whole, but where the document says otherwise. */
    private static void faultsAndEffectsOfParts() {
        for (int i = 0; i < PARTS.length; i++) {
            int part = i;
            edges.accepted("a fault in " + PARTS[i], BAD + "5 10 -1", Edges::few, p ->
                    Due.checked(p, withPart(p, part, p.atom(3, 9))));
            boolean hasNone = part == 2 || part == 7;
            boolean hasRow = part == 8 || part == 9 || part == 10;
            int all = hasNone ? 0 : hasRow ? 255 : part == 15 ? 33 : 32;
            edges.accepted("effects of " + PARTS[i], "0 -1 " + all, Edges::few, p -> {
                p.check(withPart(p, part, p.perform(5, 0)));
                return Due.faults(p);
            });
        }
    }

    private static void depths() {
        for (int i = 0; i < PARTS.length; i++) {
            int part = i;
            edges.accepted("40 deep by " + PARTS[i], true, Edges::few, p -> p.check(partOfDepth(p, part, 40)) >= 0);
            tooMuch("41 deep by " + PARTS[i], p -> partOfDepth(p, part, 41));
        }
    }

    /** IllegalStateException goes ahead of IllegalArgumentException, and the faults stay as they were. */
    private static void refusedAheadOfFaults() {
        tooMuch("401 nodes with a fault", p -> p.two(0, 1, ofSize(p, 399)));
        tooMuch("41 deep with a fault", p -> p.two(0, 3, ofDepth(p, 40)));
        edges.accepted("400 nodes with a fault", BAD + "6 1 -1", Edges::few, p -> Due.checked(p, p.two(0, 1, ofSize(p, 398))));
        edges.accepted("40 deep with a fault", BAD + "5 3 -1", Edges::few, p -> Due.checked(p, p.two(0, 3, ofDepth(p, 39))));
        edges.accepted("a fault 40 deep", BAD + "5 3 -1", Edges::few, p -> {
            int node = 3;
            for (int i = 1; i < 40; i++) {
                node = p.perform(0, node);
            }
            return Due.checked(p, node);
        });
        edges.accepted("too big behind a fault", Edges.STATE + " | 5 3 -1", CheckingEdgesTest::withFault, p ->
                Due.checked(p, kindOfSize(p, 5, 401)));
        edges.accepted("too deep behind a fault", Edges.STATE + " | 5 3 -1", CheckingEdgesTest::withFault, p ->
                Due.checked(p, ofDepth(p, 41)));
    }

    private static final String NO_PROGRAM = "0 0 0 0 0 -1 " + Edges.STATE + " " + Edges.STATE;

    private static String program(EffectNodes p) {
        return Due.states(p) + " " + Due.answerOf(() -> p.run(1)) + " " + Due.answerOf(() -> {
            p.start();
            return "starts";
        });
    }

    /** A FAULT of each number, whatever the program is doing: none is left. */
    private static void faultsDropTheProgram() {
        Edges.Maker[] makers = {EffectNodes::new, Edges::few, CheckingEdgesTest::withFault, CheckingEdgesTest::notBegun,
            CheckingEdgesTest::done, CheckingEdgesTest::unhandled};
        for (int i = 0; i < makers.length; i++) {
            for (int f = 5; f <= 9; f++) {
                int fault = f;
                edges.accepted("no program behind fault " + f + " of object " + i, f + " -1 " + NO_PROGRAM, makers[i], p -> {
                    Due.answerOf(() -> p.check(withFault(p, fault)));
                    return p.fault(0) + " " + p.fault(2) + " " + program(p);
                });
            }
        }
    }

    private static EffectNodes notBegun() {
        EffectNodes p = Edges.few();
        p.check(9);
        return p;
    }

    private static EffectNodes done() {
        EffectNodes p = Edges.few();
        p.run(200);
        return p;
    }

    private static EffectNodes unhandled() {
        EffectNodes p = Edges.few();
        p.check(4);
        p.start();
        p.run(1);
        return p;
    }

    /** A node whose check makes the given fault. */
    private static int withFault(EffectNodes p, int fault) {
        int one = p.atom(0, 1);
        switch (fault) {
            case 5:
                return p.atom(3, 9);
            case 6:
                return p.two(0, one, p.atom(2, 0));
            case 7:
                return p.handle(p.perform(2, one), 0, 0, one);
            case 8:
                p.clause(2, 0, 1, one);
                p.clause(2, 0, 1, one);
                return p.handle(one, 0, 0, one);
            default:
                return p.let(0, chain(p, 0, 31), chain(p, 1, 30));
        }
    }

    /** So many functions, one in another: as many types, each with the next one. */
    private static int chain(EffectNodes p, int argument, int count) {
        int node = p.atom(0, 1);
        for (int i = 0; i < count; i++) {
            node = p.fn(0, argument, node);
        }
        return node;
    }

    /** No types come of a fault; nodes, clauses, effects and types that were told stay. */
    private static void faultsLeaveTheRest() {
        for (int f = 5; f <= 9; f++) {
            int fault = f;
            edges.accepted("types behind fault " + f, "0 0 0 / 1 2 255 / -1 false 5", Edges::few, p -> {
                int first = p.let(0, p.fn(0, 2, 2), withFault(p, fault));
                Due.answerOf(() -> p.check(first));
                return p.type(3, 0) + " " + p.type(3, 1) + " " + p.type(3, 2) + " / " + p.type(4, 0) + " " + p.type(4, 1) + " "
                        + p.type(4, 2) + " / " + p.type(5, 0) + " " + p.fits(5, 5) + " " + p.function(1, 1, 1);
            });
        }
        edges.accepted("nodes, clauses and effects behind a fault", "10 2 2 | 0 -1 128", CheckingEdgesTest::withFault, p ->
                p.atom(0, 1) + " " + p.clause(0, 0, 0, 0) + " " + Due.checked(p, p.perform(7, 1)));
        edges.accepted("a fault, then a good one", "0 | 0 -1 0 4: 2 2", CheckingEdgesTest::withFault, p -> {
            String checked = Due.checked(p, 9);
            p.start();
            return checked + " " + p.run(200) + ": " + p.state(0) + " " + p.state(1);
        });
    }

    private static void goodOnesAreNotBegun() {
        Edges.Maker[] makers = {Edges::few, CheckingEdgesTest::withFault, CheckingEdgesTest::notBegun, CheckingEdgesTest::done,
            CheckingEdgesTest::unhandled};
        for (int i = 0; i < makers.length; i++) {
            edges.accepted("not begun " + i, "0 0 0 0 0 -1 " + Edges.STATE + " starts", makers[i], p -> {
                p.check(9);
                return program(p);
            });
        }
    }

    private static void sixtyTypes() {
        edges.accepted("the 60th", "62 | 0 -1 0", () -> Edges.withTypes(59), p -> Due.checked(p, p.fn(0, 2, 2)));
        edges.accepted("the 61st", BAD + "9 -1 -1", () -> Edges.withTypes(60), p -> Due.checked(p, p.fn(0, 2, 2)));
        edges.accepted("60, and no new one", "62 | 0 -1 0", () -> Edges.withTypes(60), p -> {
            // The 60th is from int to int with row 58, which are the effects 1, 3, 4 and 5.
            int body = 0;
            for (int e : new int[] {1, 3, 4, 5}) {
                body = p.perform(e, body);
            }
            return Due.checked(p, p.fn(0, 0, body));
        });
        edges.accepted("the 61st is not there", "-1 false 58", () -> Edges.withTypes(60), p -> {
            Due.answerOf(() -> p.check(p.fn(0, 2, 2)));
            return p.type(63, 0) + " " + p.fits(63, 63) + " " + p.type(62, 2);
        });
        edges.accepted("the 60th is not there behind a 61st", "-1 false 57 62", () -> Edges.withTypes(59), p -> {
            Due.answerOf(() -> p.check(p.let(0, p.fn(0, 2, 2), p.fn(0, 1, 1))));
            return p.type(62, 0) + " " + p.fits(62, 62) + " " + p.type(61, 2) + " " + p.function(2, 2, 2);
        });
        edges.accepted("a FAULT behind the 61st", BAD + "5 3 -1", () -> Edges.withTypes(60), p ->
                Due.checked(p, p.let(0, p.fn(0, 2, 2), 3)));
        edges.accepted("a FAULT ahead of the 61st", BAD + "5 3 -1", () -> Edges.withTypes(60), p ->
                Due.checked(p, p.let(0, 3, p.fn(0, 2, 2))));
        edges.accepted("a FAULT at the 61st itself", BAD + "6 10 -1", () -> Edges.withTypes(60), p ->
                Due.checked(p, p.two(0, 0, p.fn(0, 2, 2))));
    }

    private static void sixtyTypesOfOneProgram() {
        edges.accepted("60 of a program", "62 | 0 -1 0 throws.IllegalStateException", EffectNodes::new, p ->
                Due.checked(p, p.let(0, chain(p, 0, 30), chain(p, 1, 30))) + " " + Due.answerOf(() -> p.function(2, 2, 2)));
        edges.accepted("61 of a program", BAD + "9 -1 -1 3", EffectNodes::new, p ->
                Due.checked(p, p.let(0, chain(p, 0, 30), chain(p, 1, 31))) + " " + p.function(2, 2, 2));
        edges.accepted("one that comes twice counts once", "62 | 0 -1 0", EffectNodes::new, p -> {
            int first = chain(p, 0, 30);
            return Due.checked(p, p.let(0, first, p.let(0, first, chain(p, 1, 30))));
        });
    }

    private static void sixtyTypesWithContinuations() {
        edges.accepted("a continuation's is the 60th", "0 | 0 -1 254 0 0 254", () -> Edges.withTypes(59), p -> {
            String checked = Due.checked(p, p.handle(0, 254, 0, 0));
            return checked + " " + p.type(62, 0) + " " + p.type(62, 1) + " " + p.type(62, 2);
        });
        edges.accepted("a continuation's is the 61st", BAD + "9 -1 -1", () -> Edges.withTypes(60), p ->
                Due.checked(p, p.handle(0, 254, 0, 0)));
        edges.accepted("a continuation's is one of 60", "0 | 0 -1 58", () -> Edges.withTypes(60), p ->
                Due.checked(p, p.handle(0, 58, 0, 0)));
        edges.accepted("without clauses there is none", "0 | 0 -1 254", () -> Edges.withTypes(60), p -> {
            p.handle(0, 0, 0, 0);
            return Due.checked(p, p.handle(0, 254, 0, 0));
        });
        edges.accepted("a rec and a call make none", "0 | 0 -1 0", () -> Edges.withTypes(60), p ->
                Due.checked(p, p.rec(1, 0, 3, 0, 7)));
    }

    /** Each effect alone in a ROW, and missing alone. */
    private static void rowsOfRecs() {
        for (int e = 0; e < 8; e++) {
            int effect = e;
            int bit = 1 << e;
            edges.accepted("rec: just effect " + e, "0 | 0 -1 0", EffectNodes::new, p -> {
                int one = p.atom(0, 1);
                return Due.checked(p, p.rec(0, 1, p.function(0, 0, bit), p.perform(effect, one), one));
            });
            edges.accepted("rec: all but effect " + e, BAD + "7 1 -1", EffectNodes::new, p -> {
                int one = p.atom(0, 1);
                return Due.checked(p, p.rec(0, 1, p.function(0, 0, 255 - bit), p.perform(effect, one), one));
            });
            edges.accepted("call: just effect " + e, "0 | 0 -1 " + bit, EffectNodes::new, p -> {
                int one = p.atom(0, 1);
                return Due.checked(p, p.call(p.fn(0, 0, p.perform(effect, one)), one));
            });
        }
    }

    private static void rowsOfHandles() {
        for (int e = 0; e < 8; e++) {
            int bit = 1 << e;
            for (int place = 0; place < 3; place++) {
                String where = new String[] {"body", "return", "clause"}[place] + ", effect " + e;
                due.is("just it: " + where, "0 | 0 -1 " + bit, handling(place, e, bit, false));
                due.is("all but it: " + where, BAD + "7 1 -1", handling(place, e, 255 - bit, false));
            }
            due.is("handled in the body: " + e, "0 | 0 -1 0", handling(0, e, 0, true));
            due.is("handled, and in return: " + e, BAD + "7 1 -1", handling(1, e, 255 - bit, true));
            due.is("handled, and in its clause: " + e, BAD + "7 1 -1", handling(2, e, 255 - bit, true));
        }
    }

    /** A handle with a clause of an effect that, or another one, stands as the body, return, or clause. */
    private static Due.Call handling(int place, int e, int row, boolean own) {
        EffectNodes p = new EffectNodes();
        int one = p.atom(0, 1);
        int performs = p.perform(e, one);
        p.clause(own ? e : (e + 1) % 8, 0, 1, place == 2 ? performs : one);
        int node = p.handle(place == 0 ? performs : one, row, 0, place == 1 ? performs : one);
        return () -> Due.checked(p, node);
    }

    private static void nineClauses() {
        for (int again = -1; again < 8; again++) {
            EffectNodes p = new EffectNodes();
            int one = p.atom(0, 1);
            int two = p.atom(0, 2);
            for (int e = 0; e < 8; e++) {
                p.clause(e, 0, 1, one);
            }
            if (again >= 0) {
                p.clause(again, 0, 1, two);
            }
            int node = p.handle(one, 0, 0, one);
            due.is("eight clauses, and one for " + again, again < 0 ? "0 | 0 -1 0" : BAD + "8 1 -1", () -> Due.checked(p, node));
        }
        EffectNodes p = new EffectNodes();
        int free = p.atom(3, 5);
        int one = p.atom(0, 1);
        for (int i = 0; i < 40; i++) {
            p.clause(i == 0 ? 0 : 7, 0, 1, i == 2 ? free : one);
        }
        int node = p.handle(one, 0, 0, one);
        due.is("40 clauses: the third is the first that is a second", BAD + "8 0 -1", () -> Due.checked(p, node));
    }

    /** if wants just the type, and neither one that fits the other nor one that it fits. */
    private static void justTheType() {
        EffectNodes p = new EffectNodes();
        int one = p.atom(0, 1);
        int yes = p.atom(1, 1);
        int pure = p.fn(0, 0, one);
        int impure = p.fn(0, 0, p.perform(7, one));
        due.is("just the same", "3 | 0 -1 0", () -> Due.checked(p, p.choice(yes, pure, p.fn(5, 0, one))));
        due.is("it fits", BAD + "6 " + pure + " -1", () -> Due.checked(p, p.choice(yes, impure, pure)));
        due.is("it is fitted", BAD + "6 " + impure + " -1", () -> Due.checked(p, p.choice(yes, pure, impure)));
    }

    // Promise 16.

    private static void faults() {
        edges.accepted("a new object", "0 -1 0", EffectNodes::new, Due::faults);
        edges.accepted("node 0", BAD + "5 0 -1", EffectNodes::new, p -> Due.checked(p, p.atom(3, 0)));
        edges.accepted("node 199", BAD + "5 199 -1", () -> Edges.withNodes(199), p -> Due.checked(p, p.atom(3, 0)));
        edges.accepted("no effects", "0 | 0 -1 0", Edges::few, p -> Due.checked(p, 0));
        edges.accepted("all effects", "0 | 0 -1 255", EffectNodes::new, p -> {
            int node = p.atom(0, 1);
            for (int e = 0; e < 8; e++) {
                node = p.perform(e, node);
            }
            return Due.checked(p, node);
        });
        edges.accepted("a good one behind a fault", "0 | 0 -1 0", CheckingEdgesTest::withFault, p -> Due.checked(p, 0));
        edges.accepted("a fault behind a good one", BAD + "5 3 -1", Edges::few, p -> Due.checked(p, 3));
        edges.accepted("running leaves it", "0 -1 1", CheckingEdgesTest::unhandled, p -> {
            p.start();
            p.run(200);
            return Due.faults(p);
        });
        edges.accepted("telling leaves it", "5 3 -1", CheckingEdgesTest::withFault, p -> {
            p.let(4, 0, 3);
            p.effect(0, 1, 1);
            p.function(2, 2, 2);
            p.clause(0, 0, 0, 0);
            return Due.faults(p);
        });
    }

    private static void otherFaults() {
        Edges.Maker[] makers = {EffectNodes::new, Edges::few, CheckingEdgesTest::withFault, CheckingEdgesTest::unhandled};
        for (int i = 0; i < makers.length; i++) {
            for (int what : NO_WHATS) {
                edges.accepted("fault " + what + " of object " + i, -1, makers[i], p -> p.fault(what));
            }
        }
    }

    // Promises 17 and 18.

    private static void types() {
        for (int what = 0; what < 3; what++) {
            int w = what;
            for (int t : new int[] {MIN, -1, 0, 1, 2, 5, 62, 63, 64, 256, MAX}) {
                edges.accepted("type " + t + " " + what, -1, Edges::few, p -> p.type(t, w));
            }
            edges.accepted("the first " + what, 0, Edges::few, p -> p.type(3, w));
            edges.accepted("the last " + what, new int[] {1, 2, 255}[what], Edges::few, p -> p.type(4, w));
            edges.accepted("the 60th " + what, new int[] {0, 0, 58}[what], () -> Edges.withTypes(60), p -> p.type(62, w));
            edges.accepted("behind the 60th " + what, -1, () -> Edges.withTypes(60), p -> p.type(63, w));
        }
        for (int what : NO_WHATS) {
            for (int t = -1; t <= 5; t++) {
                int type = t;
                edges.accepted("type " + t + " " + what, -1, Edges::few, p -> p.type(type, what));
            }
        }
    }

    private static void fits() {
        int[] none = {MIN, -1, 5, 62, 63, 64, 256, MAX};
        for (int bad : none) {
            for (int t = 0; t <= 4; t++) {
                int type = t;
                edges.accepted(bad + " fits " + t, false, Edges::few, p -> p.fits(bad, type));
                edges.accepted(t + " fits " + bad, false, Edges::few, p -> p.fits(type, bad));
            }
            edges.accepted(bad + " fits itself", false, Edges::few, p -> p.fits(bad, bad));
        }
        for (int a = 0; a <= 4; a++) {
            for (int b = 0; b <= 4; b++) {
                int x = a;
                int y = b;
                edges.accepted(a + " fits " + b, a == b, Edges::few, p -> p.fits(x, y));
            }
        }
        edges.accepted("the last of 60 fits itself", true, () -> Edges.withTypes(60), p -> p.fits(62, 62));
        edges.accepted("the first of 60 fits the last", true, () -> Edges.withTypes(60), p -> p.fits(3, 62));
        edges.accepted("the last of 60 does not fit the first", false, () -> Edges.withTypes(60), p -> p.fits(62, 3));
        edges.accepted("there is no 61st", false, () -> Edges.withTypes(60), p -> p.fits(63, 63));
    }

    /** int to int with a ROW fits another one if that has all of it: each against each. */
    private static void fitsByRows() {
        int[] rows = {0, 1, 2, 3, 64, 127, 128, 129, 192, 254, 255};
        EffectNodes p = new EffectNodes();
        for (int row : rows) {
            p.function(0, 0, row);
        }
        for (int a = 0; a < rows.length; a++) {
            for (int b = 0; b < rows.length; b++) {
                int x = 3 + a;
                int y = 3 + b;
                due.is("row " + rows[a] + " fits " + rows[b], (rows[a] | rows[b]) == rows[b], () -> p.fits(x, y));
            }
        }
    }
}
