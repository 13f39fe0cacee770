/** Promises 19 to 21 at their edges: what is refused, the last of FUEL, THINGS and DEPTH, and each end. */
final class RunningEdgesTest {
    private static final Due due = new Due("RunningEdgesTest");
    private static final Edges edges = new Edges(due);
    private static final int MIN = Edges.MIN;
    private static final int MAX = Edges.MAX;
    private static final int[] NO_FUEL = {MIN, -200, -1, 201, 202, 256, MAX};
    private static final int[] NO_WHATS = {MIN, -2, -1, 6, 7, 256, MAX};

    public static void main(String[] args) {
        noProgram();
        notBegun();
        startAnew();
        wrongFuel();
        behindTheEnd();
        lastFuel();
        fuelOfEnds();
        states();
        otherStates();
        wrapAround();
        lastThing();
        lastThingOfPerform();
        lastDepth();
        lastDepthOfGoingOn();
        orderOfEnds();
        goneOnOnce();
        goneOnTwice();
        unhandledByAny();
        fortyDeep();
        firstAndLastName();
        anotherProgram();
        waitingOperands();
        fortyOperands();
        due.end();
    }

    // Objects with a program in each state; what these programs come to is asked in states().

    private static EffectNodes cleared() {
        EffectNodes p = Edges.few();
        p.clear();
        return p;
    }

    private static EffectNodes withFault() {
        EffectNodes p = Edges.few();
        Due.answerOf(() -> p.check(3));
        return p;
    }

    private static EffectNodes withTooManyTypes() {
        EffectNodes p = Edges.withTypes(60);
        Due.answerOf(() -> p.check(p.fn(0, 2, 2)));
        return p;
    }

    private static EffectNodes checked() {
        EffectNodes p = Edges.few();
        p.check(9);
        return p;
    }

    private static EffectNodes begun() {
        EffectNodes p = checked();
        p.start();
        return p;
    }

    private static EffectNodes ended(Edges.Ask program) {
        EffectNodes p = Edges.few();
        p.check((Integer) program.of(p));
        Due.worked(p);
        return p;
    }

    private static EffectNodes done() {
        return ended(p -> 9);
    }

    private static EffectNodes twice() {
        return ended(p -> {
            p.handle(0, 0, 0, 0);
            p.clause(0, 0, 1, p.two(0, 7, 7));
            return p.handle(4, 0, 0, 8);
        });
    }

    private static EffectNodes unhandled() {
        return ended(p -> 4);
    }

    private static EffectNodes full() {
        return ended(p -> RunningTest.loop(p, 3, 0, 334));
    }

    private static EffectNodes deep() {
        return ended(p -> RunningTest.loop(p, 0, 0, 400));
    }

    private static final Edges.Maker[] WITHOUT = {EffectNodes::new, RunningEdgesTest::cleared, RunningEdgesTest::withFault,
        RunningEdgesTest::withTooManyTypes};
    private static final Edges.Maker[] ENDED = {RunningEdgesTest::done, RunningEdgesTest::twice, RunningEdgesTest::unhandled,
        RunningEdgesTest::full, RunningEdgesTest::deep};
    private static final String[] ENDS = {"2 2 4 5 0 -1", "3 0 3 3 1 -1", "4 0 1 0 0 0", "5 0 334 1000 334 -1",
        "6 0 401 1 400 -1"};

    private static String start(EffectNodes p) {
        p.start();
        return Due.states(p);
    }

    // Promise 19.

    private static void noProgram() {
        for (int i = 0; i < WITHOUT.length; i++) {
            edges.refused("start without a program " + i, Edges.STATE, WITHOUT[i], RunningEdgesTest::start);
            for (int n : new int[] {0, 1, 200}) {
                edges.refused("run without a program " + i, Edges.STATE, WITHOUT[i], p -> p.run(n));
            }
            edges.accepted("states without a program " + i, "0 0 0 0 0 -1", WITHOUT[i], Due::states);
        }
        edges.accepted("a program by the next check", "1 0 0 0 0 -1", RunningEdgesTest::withFault, p -> {
            p.check(0);
            return start(p);
        });
    }

    private static void notBegun() {
        for (int n : new int[] {0, 1, 199, 200}) {
            edges.refused("not begun, run " + n, Edges.STATE, RunningEdgesTest::checked, p -> p.run(n));
        }
        for (int n : NO_FUEL) {
            edges.refused("not begun, and wrong: run " + n, Edges.STATE, RunningEdgesTest::checked, p -> p.run(n));
        }
        edges.accepted("not begun", "0 0 0 0 0 -1", RunningEdgesTest::checked, Due::states);
        edges.accepted("begun", "1 0 0 0 0 -1", RunningEdgesTest::checked, RunningEdgesTest::start);
        edges.accepted("begun: run 0", 0, RunningEdgesTest::begun, p -> p.run(0));
    }

    private static void startAnew() {
        edges.accepted("anew though it waits", "1 0 0 0 0 -1", Edges::few, RunningEdgesTest::start);
        edges.accepted("anew though it has just begun", "1 0 0 0 0 -1", RunningEdgesTest::begun, RunningEdgesTest::start);
        for (int i = 0; i < ENDED.length; i++) {
            edges.accepted("anew behind end " + i, "1 0 0 0 0 -1", ENDED[i], RunningEdgesTest::start);
            edges.accepted("it comes to the same end " + i, ENDS[i], ENDED[i], p -> {
                Due.worked(p);
                return Due.states(p);
            });
        }
    }

    // Promise 20.

    private static void wrongFuel() {
        for (int n : NO_FUEL) {
            edges.refused("it waits: run " + n, Edges.ARGUMENT, Edges::few, p -> p.run(n));
            edges.refused("it has begun: run " + n, Edges.ARGUMENT, RunningEdgesTest::begun, p -> p.run(n));
            for (int i = 0; i < ENDED.length; i++) {
                edges.refused("end " + i + ": run " + n, Edges.ARGUMENT, ENDED[i], p -> p.run(n));
            }
        }
    }

    private static void behindTheEnd() {
        for (int i = 0; i < ENDED.length; i++) {
            for (int n : new int[] {0, 1, 200}) {
                edges.accepted("behind end " + i + ": run " + n, "0: " + ENDS[i], ENDED[i], p -> p.run(n) + ": " + Due.states(p));
            }
        }
    }

    /** A loop that takes so much FUEL, and how it stands behind each of these runs. */
    private static void runs(String what, String want, int fuel, int... ns) {
        EffectNodes p = new EffectNodes();
        int node = RunningTest.loop(p, 0, p.atom(0, 5), fuel - 1);
        p.check(node);
        p.start();
        due.is(what, want, () -> {
            StringBuilder all = new StringBuilder();
            for (int n : ns) {
                all.append(p.run(n)).append(": ").append(p.state(0)).append(" ").append(p.state(1)).append(" ");
                all.append(p.state(2)).append(" ").append(p.state(4)).append("; ");
            }
            return all;
        });
    }

    private static void lastFuel() {
        runs("just 200", "200: 2 5 200 0; ", 200, 200);
        runs("199 of 200", "199: 1 0 199 199; 1: 2 5 200 0; ", 200, 199, 200);
        runs("200 of 201", "200: 1 0 200 200; 0: 1 0 200 200; 1: 2 5 201 0; ", 201, 200, 0, 1);
        runs("just one", "0: 1 0 0 0; 1: 2 5 1 0; ", 1, 0, 1);
        runs("none is left of two", "1: 1 0 1 1; 0: 1 0 1 1; 1: 2 5 2 0; 0: 2 5 2 0; ", 2, 1, 0, 1, 1);
        runs("200 twice", "200: 1 0 200 200; 200: 2 5 400 0; ", 400, 200, 200);
        EffectNodes p = new EffectNodes();
        p.check(p.atom(0, 5));
        p.start();
        due.is("none is needed", "0: 2 5 0 0 0 -1", () -> p.run(0) + ": " + Due.states(p));
    }

    /** What ends at a call or PERFORM ends with the FUEL that it took, and not ahead of it. */
    private static void fuelOfEnds() {
        edges.accepted("UNHANDLED", "0: 1 0 0 0 0 -1, 1: 4 0 1 0 0 0", Edges::few, p -> {
            p.check(4);
            p.start();
            return p.run(0) + ": " + Due.states(p) + ", " + p.run(1) + ": " + Due.states(p);
        });
        edges.accepted("TWICE", "2: 1 0 2 3 1 -1, 0: 1 0 2 3 1 -1, 1: 3 0 3 3 1 -1", RunningEdgesTest::twice, p -> {
            p.start();
            return p.run(2) + ": " + Due.states(p) + ", " + p.run(0) + ": " + Due.states(p) + ", " + p.run(200) + ": "
                    + Due.states(p);
        });
        edges.accepted("DEEP", "200: 1 0 400 1 400 -1, 0: 1 0 400 1 400 -1, 1: 6 0 401 1 400 -1", RunningEdgesTest::deep, p -> {
            p.start();
            p.run(200);
            return p.run(200) + ": " + Due.states(p) + ", " + p.run(0) + ": " + Due.states(p) + ", " + p.run(200) + ": "
                    + Due.states(p);
        });
        edges.accepted("FULL, which a function needs no FUEL for", "133: 1 0 333 1000 333 -1, 1: 5 0 334 1000 334 -1",
                RunningEdgesTest::full, p -> {
                    p.start();
                    p.run(200);
                    return p.run(133) + ": " + Due.states(p) + ", " + p.run(1) + ": " + Due.states(p);
                });
    }

    // Promise 21.

    private static void states() {
        edges.accepted("it waits", "1 0 1 3 1 -1", Edges::few, Due::states);
        edges.accepted("it has begun", "1 0 0 0 0 -1", RunningEdgesTest::begun, Due::states);
        for (int i = 0; i < ENDED.length; i++) {
            edges.accepted("end " + i, ENDS[i], ENDED[i], Due::states);
        }
        for (int value : new int[] {MIN, -1, 0, 1, MAX}) {
            edges.accepted("a value of " + value, "2 " + value + " 0 0 0 -1", Edges::few, p -> {
                p.check(p.atom(0, value));
                Due.worked(p);
                return Due.states(p);
            });
        }
        edges.accepted("of a function, whatever it is", "2 0 0 7 0 -1", Edges::few, p -> {
            int function = p.fn(0, 0, 0);
            int node = function;
            for (int i = 0; i < 6; i++) {
                node = p.let(0, function, node);
            }
            p.check(node);
            Due.worked(p);
            return Due.states(p);
        });
    }

    private static void otherStates() {
        for (int what : NO_WHATS) {
            for (int i = 0; i < WITHOUT.length; i++) {
                edges.accepted("state " + what + " without a program " + i, -1, WITHOUT[i], p -> p.state(what));
            }
            for (int i = 0; i < ENDED.length; i++) {
                edges.accepted("state " + what + " behind end " + i, -1, ENDED[i], p -> p.state(what));
            }
            edges.accepted("state " + what + " while it waits", -1, Edges::few, p -> p.state(what));
            edges.accepted("state " + what + " ahead of it", -1, RunningEdgesTest::checked, p -> p.state(what));
        }
    }

    /** int is 32 bits: each sign with each pair of the biggest and smallest ones. */
    private static void wrapAround() {
        int[] numbers = {MIN, MIN + 1, -65536, -46341, -1, 0, 1, 2, 46340, 46341, 65536, MAX - 1, MAX};
        for (int left : numbers) {
            for (int right : numbers) {
                EffectNodes p = new EffectNodes();
                int a = p.atom(0, left);
                int b = p.atom(0, right);
                long[] wanted = {(long) left + right, (long) left - right, (long) left * right, (long) left < right ? 1 : 0,
                    (long) left == right ? 1 : 0};
                for (int sign = 0; sign < 5; sign++) {
                    int node = p.two(sign, a, b);
                    due.is(left + " and " + right + " by sign " + sign, (int) wanted[sign], () -> {
                        p.check(node);
                        Due.worked(p);
                        return p.state(1);
                    });
                }
            }
        }
    }

    private static void ends(String what, String want, Edges.Ask program) {
        EffectNodes p = new EffectNodes();
        due.is(what, want, () -> {
            p.check((Integer) program.of(p));
            Due.worked(p);
            return Due.states(p);
        });
    }

    /** So many functions are made and dropped ahead of an EXPR. */
    private static int behindFunctions(EffectNodes p, int count, int node) {
        int function = p.fn(7, 0, p.atom(0, 1));
        int all = node;
        for (int i = 0; i < count; i++) {
            all = p.let(7, function, all);
        }
        return all;
    }

    /** EXPRs that make one THING each, as the 999th, 1000th and 1001st one. */
    private static void lastThing() {
        Edges.Ask[] makers = {p -> p.let(7, p.fn(7, 0, p.atom(0, 1)), p.atom(0, 1)),
            p -> p.rec(0, 1, p.function(0, 0, 0), p.atom(0, 1), p.atom(0, 1)), p -> p.handle(p.atom(0, 1), 0, 0, p.atom(0, 1))};
        for (int i = 0; i < makers.length; i++) {
            Edges.Ask maker = makers[i];
            String[] wanted = {"2 1 333 999 0 -1", "2 1 333 1000 0 -1", "5 0 333 1000 333 -1"};
            for (int ahead = 1; ahead <= 3; ahead++) {
                int many = ahead;
                // A rec and 332 times 3 functions are 997 THINGS.
                ends("THING " + (998 + ahead) + " by " + i, wanted[ahead - 1], p ->
                        RunningTest.loop(p, 3, behindFunctions(p, many, (Integer) maker.of(p)), 332));
            }
        }
    }

    /** A handle and, by its PERFORM, two THINGS more, behind 997 to 1000. */
    private static void lastThingOfPerform() {
        String[] wanted = {"2 1 334 1000 0 -1", "5 0 334 999 334 -1", "5 0 334 1000 334 -1", "5 0 333 1000 333 -1"};
        for (int ahead = 0; ahead <= 3; ahead++) {
            int many = ahead;
            ends("a PERFORM behind " + (998 + ahead), wanted[ahead], p -> {
                int one = p.atom(0, 1);
                p.clause(0, 0, 1, one);
                int handler = p.handle(p.perform(0, one), 0, 0, one);
                return RunningTest.loop(p, 3, behindFunctions(p, many, handler), 332);
            });
        }
    }

    /** A call, a handler, a clause's EXPR and return's as the 400th, and as a 401st where they could be. */
    private static void lastDepth() {
        ends("a call as the 400th", "2 1 400 1 0 -1", p -> RunningTest.loop(p, 0, p.atom(0, 1), 399));
        ends("a call as the 401st", "6 0 401 1 400 -1", p -> RunningTest.loop(p, 0, p.atom(0, 1), 400));
        ends("a handler as the 400th", "2 1 399 2 0 -1", p -> RunningTest.loop(p, 0, handler(p, p.atom(0, 1)), 398));
        ends("a handler as the 401st", "6 0 400 1 400 -1", p -> RunningTest.loop(p, 0, handler(p, p.atom(0, 1)), 399));
        ends("a clause as the 400th", "2 7 400 4 0 -1", p -> {
            p.clause(0, 0, 1, p.atom(0, 7));
            return RunningTest.loop(p, 0, handler(p, p.perform(0, p.atom(0, 1))), 398);
        });
        ends("a call in a handler, 401st", "6 0 400 3 400 -1", p ->
                RunningTest.loop(p, 0, handler(p, p.call(p.fn(0, 0, p.atom(0, 1)), p.atom(0, 1))), 398));
        ends("a call in a clause, 401st", "6 0 401 5 400 -1", p -> {
            p.clause(0, 0, 1, p.call(p.fn(0, 0, p.atom(0, 1)), p.atom(0, 1)));
            return RunningTest.loop(p, 0, handler(p, p.perform(0, p.atom(0, 1))), 398);
        });
        ends("a call in return, 400th", "2 1 399 3 0 -1", p -> RunningTest.loop(p, 0, callingReturn(p), 397));
        ends("a call in return, 401st", "6 0 400 3 400 -1", p -> RunningTest.loop(p, 0, callingReturn(p), 398));
        ends("a handler in a handler, 401st", "6 0 399 2 400 -1", p ->
                RunningTest.loop(p, 0, handler(p, p.handle(p.atom(0, 1), 0, 0, p.atom(0, 1))), 398));
    }

    /** handle a with the clauses that are ready, return x -> x */
    private static int handler(EffectNodes p, int body) {
        return p.handle(body, 0, 3, p.atom(3, 3));
    }

    private static int callingReturn(EffectNodes p) {
        int one = p.atom(0, 1);
        return p.handle(one, 0, 3, p.call(p.fn(0, 0, one), one));
    }

    /** A clause that goes on with its continuation, which brings the handler alone, or a call, too. */
    private static void lastDepthOfGoingOn() {
        ends("its handler as the 400th", "2 1 400 4 0 -1", p -> RunningTest.loop(p, 0, goingOn(p, false), 397));
        ends("its handler as the 401st", "6 0 401 4 400 -1", p -> RunningTest.loop(p, 0, goingOn(p, false), 398));
        ends("what it brings as the 400th", "2 1 400 6 0 -1", p -> RunningTest.loop(p, 0, goingOn(p, true), 396));
        ends("what it brings as the 401st", "6 0 401 6 399 -1", p -> RunningTest.loop(p, 0, goingOn(p, true), 397));
    }

    private static int goingOn(EffectNodes p, boolean byCall) {
        int one = p.atom(0, 1);
        int performs = p.perform(0, one);
        p.clause(0, 0, 1, p.call(p.atom(3, 1), one));
        return handler(p, byCall ? p.call(p.fn(0, 0, performs), one) : performs);
    }

    /** Of several ends at one call, PERFORM or handle, the one that is told first. */
    private static void orderOfEnds() {
        ends("UNHANDLED ahead of FULL", "4 0 335 1000 334 5", p -> RunningTest.loop(p, 3, p.perform(5, p.atom(0, 1)), 333));
        ends("UNHANDLED at the last DEPTH", "4 0 401 1 400 6", p -> RunningTest.loop(p, 0, p.perform(6, p.atom(0, 1)), 399));
        ends("FULL ahead of DEEP", "5 0 500 1000 400 -1", p -> fullAndDeep(p, 3));
        ends("DEEP, one THING less", "6 0 500 999 400 -1", p -> fullAndDeep(p, 2));
        ends("TWICE ahead of DEEP", "3 0 402 4 400 -1", p -> {
            int one = p.atom(0, 1);
            int k = p.atom(3, 1);
            p.clause(0, 0, 1, p.let(2, p.call(k, one), RunningTest.loop(p, 0, p.call(k, one), 398)));
            return p.handle(p.perform(0, one), 255, 3, p.atom(3, 3));
        });
        ends("DEEP at the first time", "6 0 401 4 400 -1", p -> {
            int one = p.atom(0, 1);
            int k = p.atom(3, 1);
            p.clause(0, 0, 1, RunningTest.loop(p, 0, p.call(k, one), 398));
            return p.handle(p.perform(0, one), 255, 3, p.atom(3, 3));
        });
    }

    /** A handle at the last DEPTH behind so many THINGS, and 997. */
    private static int fullAndDeep(EffectNodes p, int more) {
        int one = p.atom(0, 1);
        int first = RunningTest.loop(p, 2, one, 99);
        int last = RunningTest.loop(p, 2, p.handle(one, 0, 0, one), 398);
        // 199 and 797 THINGS, and one by a call's function, which the last call stands in.
        int called = p.call(p.fn(0, 0, behindFunctions(p, more, last)), one);
        return p.let(6, first, called);
    }

    /** Started anew, a continuation may be gone on with again, once. */
    private static void goneOnOnce() {
        EffectNodes p = Edges.few();
        for (int i = 0; i < 3; i++) {
            p.start();
            due.is("once in run " + i, "4: 2 2 4 5 0 -1", () -> p.run(200) + ": " + Due.states(p));
        }
        ends("never", "2 7 1 3 0 -1", q -> {
            q.clause(0, 0, 1, q.atom(0, 7));
            return handler(q, q.perform(0, q.atom(0, 1)));
        });
    }

    private static void goneOnTwice() {
        ends("the second in the first one's argument", "3 0 3 3 1 -1", p -> {
            int k = p.atom(3, 1);
            p.clause(0, 0, 1, p.call(k, p.call(k, p.atom(0, 1))));
            return handler(p, p.perform(0, p.atom(0, 1)));
        });
        ends("far from where its handler was", "3 0 6 5 1 -1", p -> {
            int one = p.atom(0, 1);
            int s = p.atom(3, 4);
            p.clause(0, 0, 1, p.fn(4, 0, p.call(p.call(p.atom(3, 1), s), s)));
            int kept = p.handle(p.perform(0, one), 0, 5, p.fn(4, 0, p.atom(3, 5)));
            int call = p.call(p.atom(3, 8), one);
            return p.let(8, kept, p.two(0, call, call));
        });
        ends("two continuations, each once", "2 2 4 5 0 -1", p -> {
            int one = p.atom(0, 1);
            int performs = p.perform(0, one);
            p.clause(0, 0, 1, p.call(p.atom(3, 1), one));
            return handler(p, p.two(0, performs, performs));
        });
    }

    private static void unhandledByAny() {
        for (int e = 0; e < 8; e++) {
            int effect = e;
            ends("no handler for " + e, "4 0 1 0 0 " + e, p -> p.perform(effect, p.atom(0, 1)));
            ends("a handler without clauses for " + e, "4 0 1 1 1 " + e, p ->
                    p.handle(p.perform(effect, p.atom(0, 1)), 255, 3, p.atom(3, 3)));
            ends("a handler with all clauses but for " + e, "4 0 1 1 1 " + e, p -> {
                for (int other = 0; other < 8; other++) {
                    if (other != effect) {
                        p.clause(other, 0, 1, p.atom(0, 1));
                    }
                }
                return p.handle(p.perform(effect, p.atom(0, 1)), 255, 3, p.atom(3, 3));
            });
            ends("its handler's own clause", "4 0 2 3 1 " + e, p -> {
                p.clause(effect, 0, 1, p.perform(effect, p.atom(0, 1)));
                return p.handle(p.perform(effect, p.atom(0, 1)), 255, 3, p.atom(3, 3));
            });
            ends("its handler's own return", "4 0 1 1 1 " + e, p -> {
                p.clause(effect, 0, 1, p.atom(0, 1));
                return p.handle(p.atom(0, 1), 255, 3, p.perform(effect, p.atom(0, 1)));
            });
        }
    }

    private static final String[] PARTS = {"let a", "let b", "rec a", "rec b", "choice a", "choice b", "choice c", "fn a",
        "handle a", "handle b", "clause", "two a", "two b", "call a", "call b", "perform a"};

    /** One EXPR around an int EXPR, with that one worked as the given part; it has one level more, or two. */
    private static int around(EffectNodes p, int part, int node) {
        int one = 0;
        switch (part) {
            case 0:
                return p.let(0, node, one);
            case 1:
                return p.let(0, one, node);
            case 2:
                return p.rec(5, 6, 3, node, p.call(2, one));
            case 3:
                return p.rec(5, 6, 3, one, node);
            case 4:
                return p.choice(p.two(3, node, one), one, one);
            case 5:
                return p.choice(1, node, one);
            case 6:
                return p.choice(3, one, node);
            case 7:
                return p.call(p.fn(0, 0, node), one);
            case 8:
                return p.handle(node, 255, 0, one);
            case 9:
                return p.handle(one, 255, 0, node);
            case 10:
                p.clause(1, 0, 1, node);
                return p.handle(4, 255, 0, one);
            case 11:
                return p.two(0, node, one);
            case 12:
                return p.two(0, one, node);
            case 13:
                return p.call(p.let(0, node, 5), one);
            case 14:
                return p.call(5, node);
            default:
                return p.perform(1, node);
        }
    }

    /** What stands 40 deep is worked, as each part of each EXPR: its PERFORM is the first that nobody handles. */
    private static void fortyDeep() {
        for (int part = 0; part < PARTS.length; part++) {
            EffectNodes p = new EffectNodes();
            p.atom(0, 1);
            p.atom(1, 1);
            p.atom(3, 5);
            p.atom(1, 0);
            p.perform(1, 0);
            p.fn(0, 0, 0);
            p.function(0, 0, 255);
            boolean isInPart = part == 4 || part == 7 || part == 13;
            int node = p.perform(6, 0);
            for (int level = 2; level < 40; level += isInPart ? 2 : 1) {
                node = around(p, part, node);
            }
            int whole = node;
            due.is("40 deep: " + PARTS[part], "4 6", () -> {
                p.check(whole);
                Due.worked(p);
                return p.state(0) + " " + p.state(5);
            });
            due.illegalState("41 deep: " + PARTS[part], () -> p.check(p.two(0, whole, whole)));
        }
    }

    /** The first name and the last one, wherever a name is given. */
    private static void firstAndLastName() {
        for (int name : new int[] {0, 9}) {
            int other = 9 - name;
            ends("let " + name, "2 7 0 0 0 -1", p -> p.let(name, p.atom(0, 7), p.let(other, p.atom(0, 8), p.atom(3, name))));
            ends("fn " + name, "2 15 2 2 0 -1", p -> {
                int sum = p.two(0, p.atom(3, name), p.two(0, p.atom(3, name), p.atom(3, other)));
                return p.call(p.call(p.fn(name, 0, p.fn(other, 0, sum)), p.atom(0, 7)), p.atom(0, 1));
            });
            ends("rec " + name + ", no first thing", "2 120 6 2 0 -1", p -> {
                int one = p.atom(0, 1);
                int x = p.atom(3, other);
                int f = p.atom(3, name);
                int body = p.choice(p.two(3, x, one), one, p.two(2, x, p.call(f, p.two(1, x, one))));
                return p.let(5, p.fn(0, 0, one), p.rec(name, other, p.function(0, 0, 0), body, p.call(f, p.atom(0, 5))));
            });
            ends("return " + name, "2 16 0 1 0 -1", p ->
                    p.handle(p.atom(0, 8), 0, name, p.two(0, p.atom(3, name), p.atom(3, name))));
            ends("clause " + name, "2 43 2 3 0 -1", p -> {
                p.clause(7, name, other, p.two(0, p.call(p.atom(3, other), p.atom(0, 1)), p.atom(3, name)));
                return p.handle(p.two(0, p.perform(7, p.atom(0, 40)), p.atom(0, 2)), 0, name, p.atom(3, name));
            });
        }
    }

    /** Nothing of a run is left in the next one, though its things were of other kinds. */
    private static void anotherProgram() {
        EffectNodes p = Edges.few();
        due.is("two continuations", "3: 2 2 4 5 0 -1", () -> p.run(200) + ": " + Due.states(p));
        int function = p.fn(0, 0, p.two(0, 8, 0));
        int node = 0;
        for (int i = 0; i < 5; i++) {
            node = p.call(function, node);
        }
        int calls = node;
        due.is("five functions", "5: 2 6 5 5 0 -1", () -> {
            p.check(calls);
            p.start();
            return p.run(200) + ": " + Due.states(p);
        });
        due.is("two continuations again", "4: 2 2 4 5 0 -1", () -> {
            p.check(9);
            p.start();
            return p.run(200) + ": " + Due.states(p);
        });
    }

    /** A program that is begun anew while 38 operands wait, again and again. */
    private static void waitingOperands() {
        EffectNodes p = new EffectNodes();
        int one = p.atom(0, 1);
        int node = p.call(p.fn(0, 0, p.atom(3, 0)), one);
        for (int i = 0; i < 37; i++) {
            node = p.two(0, one, node);
        }
        p.check(node);
        for (int i = 0; i < 20; i++) {
            p.start();
            due.is("it waits", "0: 1 0 0 1 0 -1", () -> p.run(0) + ": " + Due.states(p));
        }
        due.is("and goes on", "1: 2 38 1 1 0 -1", () -> p.run(1) + ": " + Due.states(p));
    }

    /** In a program 40 deep each of 39 EXPRs keeps one value while the last one is worked: none may be lost. */
    private static void fortyOperands() {
        // 1 - (4 - (9 - .. (1521 - 1600))): a value that is lost would be seen.
        int waiting = 1600;
        for (int i = 39; i >= 1; i--) {
            waiting = i * i - waiting;
        }
        ends("39 numbers wait", "2 " + waiting + " 0 0 0 -1", p -> {
            int node = p.atom(0, 1600);
            for (int i = 39; i >= 1; i--) {
                node = p.two(1, p.atom(0, i * i), node);
            }
            return node;
        });
        ends("39 names wait", "2 39 0 0 0 -1", p -> {
            int node = p.atom(3, 0);
            for (int i = 39; i >= 1; i--) {
                node = p.let(0, p.atom(0, i), node);
            }
            return node;
        });
        ends("38 functions and a name wait", "2 154 38 1 0 -1", p -> {
            int more = p.fn(0, 0, p.two(0, p.atom(3, 0), p.atom(0, 3)));
            int node = p.atom(0, 40);
            for (int i = 0; i < 38; i++) {
                node = p.call(p.atom(3, 1), node);
            }
            return p.let(1, more, node);
        });
        ends("37 numbers wait in a continuation", "2 46 2 3 0 -1", p -> {
            int node = p.perform(0, p.atom(0, 1));
            for (int i = 0; i < 37; i++) {
                node = p.two(0, p.atom(0, 1), node);
            }
            p.clause(0, 0, 1, p.call(p.atom(3, 1), p.atom(0, 9)));
            return p.handle(node, 0, 0, p.atom(3, 0));
        });
    }
}
