/** Promises 19 to 21: start, run, state, and what running is. */
final class RunningTest {
    private static final Due due = new Due("RunningTest");

    public static void main(String[] args) {
        beginning();
        fuel();
        arithmetic();
        order();
        names();
        recs();
        shownValues();
        goingOn();
        whichHandler();
        escaping();
        dropping();
        twice();
        unhandled();
        fullByFunctions();
        fullByPerform();
        deepByCall();
        deepByHandle();
        fullAheadOfDeep();
        deepByGoingOn();
        recFull();
        allTheDepth();
        eightClauses();
        fortyLevels();
        longRuns();
        due.end();
    }

    /** The states of a program that was worked to its end. */
    private static void ends(String what, String want, EffectNodes p, int node) {
        due.is(what, want, () -> {
            p.check(node);
            Due.worked(p);
            return Due.states(p);
        });
    }

    private static void beginning() {
        EffectNodes p = new EffectNodes();
        int seven = p.atom(0, 7);
        due.illegalState("no program", () -> { p.start(); return 0; });
        p.check(seven);
        due.is("not begun", "0 0 0 0 0 -1", () -> Due.states(p));
        due.illegalState("run ahead of start", () -> p.run(3));
        due.illegalState("also with a wrong n", () -> p.run(-3));
        p.start();
        due.is("begun", "1 0 0 0 0 -1", () -> Due.states(p));
        due.illegalArgument("n 201", () -> p.run(201));
        due.illegalArgument("n -1", () -> p.run(-1));
        due.illegalArgument("n big", () -> p.run(Integer.MAX_VALUE));
        due.is("still begun", "1 0 0 0 0 -1", () -> Due.states(p));
        due.is("nothing is taken", 0, () -> p.run(0));
        due.is("done", "2 7 0 0 0 -1", () -> Due.states(p));
        due.is("it has ended", 0, () -> p.run(200));
        due.illegalArgument("n 201 behind the end", () -> p.run(201));
        due.is("still done", "2 7 0 0 0 -1", () -> Due.states(p));
        p.start();
        due.is("anew", "1 0 0 0 0 -1", () -> Due.states(p));
        for (int what : new int[] {-1, 6, 7, Integer.MIN_VALUE, Integer.MAX_VALUE}) {
            due.is("state " + what, -1, () -> p.state(what));
        }
        p.run(0);
        p.check(seven);
        due.is("checked again: not begun", "0 0 0 0 0 -1", () -> Due.states(p));
        p.effect(0, 1, 1);
        p.atom(0, 1);
        p.start();
        p.run(0);
        due.is("what is told later does not count", "2 7 0 0 0 -1", () -> Due.states(p));
    }

    private static void fuel() {
        EffectNodes p = new EffectNodes();
        int x = p.atom(3, 0);
        int same = p.fn(0, 0, x);
        int node = p.call(same, p.call(same, p.atom(0, 9)));
        p.check(node);
        p.start();
        due.is("it stops ahead of the first call", 0, () -> p.run(0));
        due.is("both functions are made", "1 0 0 2 0 -1", () -> Due.states(p));
        due.is("and stays there", 0, () -> p.run(0));
        due.is("one", 1, () -> p.run(1));
        due.is("the inner call is done", "1 0 1 2 0 -1", () -> Due.states(p));
        due.is("the other", 1, () -> p.run(200));
        due.is("done", "2 9 2 2 0 -1", () -> Due.states(p));
        int inner = p.call(same, x);
        int outer = p.call(p.fn(0, 0, inner), p.atom(0, 5));
        p.check(outer);
        p.start();
        due.is("one call", 1, () -> p.run(1));
        due.is("it is being worked", "1 0 1 2 1 -1", () -> Due.states(p));
        p.start();
        due.is("begun anew", "1 0 0 0 0 -1", () -> Due.states(p));
        due.is("both", 2, () -> p.run(2));
        due.is("just enough", "2 5 2 2 0 -1", () -> Due.states(p));
    }

    private static void arithmetic() {
        int[][] cases = {
            {0, Integer.MAX_VALUE, 1, Integer.MIN_VALUE}, {0, -3, 5, 2}, {1, Integer.MIN_VALUE, 1, Integer.MAX_VALUE},
            {1, 3, 5, -2}, {2, 65536, 65536, 0}, {2, Integer.MIN_VALUE, -1, Integer.MIN_VALUE}, {2, -3, 5, -15},
            {3, -1, 0, 1}, {3, 0, 0, 0}, {3, 1, 0, 0}, {3, Integer.MIN_VALUE, Integer.MAX_VALUE, 1}, {4, 5, 5, 1},
            {4, 5, -5, 0},
        };
        for (int[] c : cases) {
            EffectNodes p = new EffectNodes();
            int a = p.atom(0, c[1]);
            int b = p.atom(0, c[2]);
            ends("sign " + c[0], "2 " + c[3] + " 0 0 0 -1", p, p.two(c[0], a, b));
        }
        EffectNodes p = new EffectNodes();
        int one = p.atom(0, 1);
        int two = p.atom(0, 2);
        ends("then", "2 1 0 0 0 -1", p, p.choice(p.atom(1, 1), one, two));
        ends("else", "2 2 0 0 0 -1", p, p.choice(p.two(3, two, one), one, two));
    }

    private static void order() {
        EffectNodes p = new EffectNodes();
        int one = p.atom(0, 1);
        p.effect(2, 0, p.function(0, 0, 0));
        int first = p.perform(3, one);
        int second = p.perform(4, one);
        int function = p.perform(2, one);
        ends("two from the left", "4 0 1 0 0 3", p, p.two(0, first, second));
        ends("the function ahead of its argument", "4 0 1 0 0 2", p, p.call(function, first));
        ends("a PERFORM behind its argument", "4 0 1 0 0 3", p, p.perform(5, first));
        ends("let from the left", "4 0 1 0 0 4", p, p.let(0, second, first));
        ends("if's first", "4 0 1 0 0 3", p, p.choice(p.two(3, first, one), second, second));
        ends("just one of the others", "4 0 1 0 0 4", p, p.choice(p.two(4, one, one), second, first));
        ends("fn is not worked", "2 0 0 1 0 -1", p, p.fn(0, 0, first));
    }

    private static void names() {
        EffectNodes p = new EffectNodes();
        int x = p.atom(3, 0);
        int y = p.atom(3, 1);
        int f = p.atom(3, 2);
        int one = p.atom(0, 1);
        int ten = p.atom(0, 10);
        int add = p.fn(1, 0, p.two(0, x, y));
        int use = p.call(f, p.atom(0, 5));
        ends("a function has the names where it was made", "2 6 1 1 0 -1", p,
                p.let(0, one, p.let(2, add, p.let(0, ten, use))));
        ends("a name comes back behind a let", "2 21 0 0 0 -1", p,
                p.let(0, ten, p.two(0, p.let(0, one, x), p.two(0, x, ten))));
        ends("and behind a call", "2 16 1 1 0 -1", p, p.let(0, ten, p.two(0, p.let(0, one, p.let(2, add, use)), x)));
        ends("the argument hides", "2 5 1 1 0 -1", p, p.let(0, one, p.let(2, p.fn(0, 0, x), use)));
        int curried = p.fn(0, 0, p.fn(1, 0, p.two(1, x, y)));
        ends("a function of a function", "2 9 2 2 0 -1", p, p.call(p.call(curried, ten), one));
    }

    private static void recs() {
        EffectNodes p = new EffectNodes();
        int type = p.function(0, 0, 0);
        int f = p.atom(3, 1);
        int x = p.atom(3, 2);
        int one = p.atom(0, 1);
        int body = p.choice(p.two(3, x, one), one, p.two(2, x, p.call(f, p.two(1, x, one))));
        ends("5 factorial", "2 120 6 1 0 -1", p, p.rec(1, 2, type, body, p.call(f, p.atom(0, 5))));
        ends("both names one: the argument", "2 6 1 1 0 -1", p,
                p.rec(1, 1, type, p.two(0, f, one), p.call(f, p.atom(0, 5))));
        ends("it is in the rest as well", "2 8 2 1 0 -1", p,
                p.rec(1, 2, type, p.two(0, x, one), p.call(f, p.call(f, p.atom(0, 6)))));
        ends("it is gone behind the rest", "2 4 1 1 0 -1", p,
                p.let(1, one, p.two(0, p.rec(1, 2, type, p.two(0, x, one), p.call(f, p.atom(0, 2))), f)));
    }

    private static void shownValues() {
        EffectNodes p = new EffectNodes();
        int one = p.atom(0, 1);
        ends("true", "2 1 0 0 0 -1", p, p.atom(1, 1));
        ends("false", "2 0 0 0 0 -1", p, p.atom(1, 0));
        ends("unit", "2 0 0 0 0 -1", p, p.atom(2, 5));
        int f = p.fn(0, 0, one);
        ends("a function", "2 0 0 1 0 -1", p, f);
        ends("another function", "2 0 0 2 0 -1", p, p.let(0, f, f));
    }

    /** A handler whose body asks twice and whose clause goes on with 5. */
    private static void goingOn() {
        EffectNodes p = new EffectNodes();
        int ten = p.atom(0, 10);
        int ask = p.perform(0, ten);
        int x = p.atom(3, 0);
        int k = p.atom(3, 1);
        p.clause(0, 0, 1, p.two(0, p.call(k, p.atom(0, 5)), x));
        int node = p.handle(p.two(0, ask, p.two(2, ask, p.atom(0, 100))), 0, 0, p.two(0, x, p.atom(0, 1000)));
        p.check(node);
        p.start();
        String[] steps = {"0: 1 0 0 1 1 -1", "1: 1 0 1 3 1 -1", "1: 1 0 2 3 2 -1", "1: 1 0 3 5 2 -1", "1: 2 1525 4 5 0 -1"};
        for (int i = 0; i < steps.length; i++) {
            int n = i == 0 ? 0 : 1;
            due.is("step " + i, steps[i], () -> p.run(n) + ": " + Due.states(p));
        }
        p.start();
        due.is("anew, at once", "4: 2 1525 4 5 0 -1", () -> p.run(200) + ": " + Due.states(p));
        p.clause(0, 0, 0, p.call(x, ten));
        ends("one name for both: the continuation", "2 10 2 3 0 -1", p, p.handle(ask, 0, 0, x));
        ends("return without PERFORM", "2 1010 0 1 0 -1", p, p.handle(ten, 0, 0, p.two(0, x, p.atom(0, 1000))));
    }

    private static void whichHandler() {
        EffectNodes p = new EffectNodes();
        int one = p.atom(0, 1);
        int x = p.atom(3, 0);
        int ask0 = p.perform(0, one);
        int ask1 = p.perform(1, one);
        p.clause(0, 0, 1, p.atom(0, 100));
        int inner = p.handle(ask0, 3, 0, x);
        p.clause(0, 0, 1, p.atom(0, 200));
        ends("the innermost", "2 100 1 4 0 -1", p, p.handle(inner, 255, 0, x));
        p.clause(0, 0, 1, p.atom(0, 100));
        int other = p.handle(ask1, 3, 0, x);
        p.clause(0, 0, 1, p.atom(0, 200));
        p.clause(1, 0, 1, p.atom(0, 300));
        ends("the innermost with a clause", "2 300 1 5 0 -1", p, p.handle(other, 255, 0, x));
        p.clause(0, 0, 1, ask0);
        int again = p.handle(ask0, 3, 0, x);
        p.clause(0, 0, 1, p.atom(0, 200));
        ends("a clause is worked without its handler", "2 200 2 7 0 -1", p, p.handle(again, 255, 0, x));
        p.clause(0, 0, 1, p.atom(0, 100));
        int end = p.handle(one, 3, 0, ask0);
        p.clause(0, 0, 1, p.atom(0, 200));
        ends("return is worked without its handler", "2 200 1 5 0 -1", p, p.handle(end, 255, 0, x));
        p.clause(0, 0, 1, p.atom(0, 100));
        ends("a clause of another handler has the outer names", "2 107 1 3 0 -1", p,
                p.let(5, p.atom(0, 7), p.two(0, p.handle(p.let(5, one, ask0), 0, 0, x), p.atom(3, 5))));
        p.clause(0, 0, 1, p.two(0, p.atom(3, 5), x));
        ends("a clause has the names where its handle stands", "2 8 1 3 0 -1", p,
                p.let(5, p.atom(0, 7), p.handle(p.let(5, one, ask0), 0, 0, x)));
    }

    /** Functions that keep the continuation: it goes on far from where the handler stood. */
    private static void escaping() {
        EffectNodes p = new EffectNodes();
        int unit = p.atom(2, 0);
        p.effect(0, 2, 0);
        p.effect(1, 0, 2);
        int s = p.atom(3, 4);
        int k = p.atom(3, 1);
        int x = p.atom(3, 0);
        int get = p.perform(0, unit);
        int put = p.perform(1, p.two(0, get, p.atom(0, 1)));
        int body = p.let(6, put, p.let(6, put, p.two(2, get, p.atom(0, 10))));
        p.clause(0, 0, 1, p.fn(4, 0, p.call(p.call(k, s), s)));
        p.clause(1, 0, 1, p.fn(4, 0, p.call(p.call(k, unit), x)));
        int handler = p.handle(body, 0, 0, p.fn(4, 0, x));
        ends("a state", "2 230 16 17 0 -1", p, p.call(handler, p.atom(0, 21)));
        EffectNodes q = new EffectNodes();
        int name = q.atom(3, 0);
        int kq = q.atom(3, 1);
        int bodyType = q.function(0, 0, 0);
        q.effect(0, 0, bodyType);
        q.clause(0, 0, 1, q.fn(5, 0, q.call(q.call(kq, q.fn(6, 0, q.atom(3, 6))), q.atom(3, 5))));
        int performing = q.perform(0, q.atom(0, 3));
        int handling = q.handle(q.let(7, q.atom(0, 40), q.two(0, q.call(performing, q.atom(0, 2)), q.atom(3, 7))), 0, 0,
                q.fn(5, 0, q.two(0, name, q.atom(3, 5))));
        int far = q.let(7, q.atom(0, 1000), q.let(8, handling, q.two(0, q.call(q.atom(3, 8), q.atom(0, 500)), q.atom(3, 7))));
        ends("its names and the caller's stay apart", "2 1542 5 6 0 -1", q, far);
    }

    private static void dropping() {
        EffectNodes p = new EffectNodes();
        int one = p.atom(0, 1);
        int type = p.function(0, 0, 1);
        int f = p.atom(3, 1);
        int x = p.atom(3, 2);
        int down = p.call(f, p.two(1, x, one));
        int body = p.choice(p.two(3, x, one), p.perform(0, x), p.two(0, down, one));
        p.clause(0, 0, 1, p.atom(0, 77));
        int node = p.handle(p.rec(1, 2, type, body, p.call(f, p.atom(0, 9))), 0, 0, one);
        p.check(node);
        p.start();
        due.is("ten calls", "10: 1 0 10 2 11 -1", () -> p.run(10) + ": " + Due.states(p));
        due.is("all are dropped", "1: 2 77 11 14 0 -1", () -> p.run(1) + ": " + Due.states(p));
    }

    private static void twice() {
        EffectNodes p = new EffectNodes();
        int one = p.atom(0, 1);
        int x = p.atom(3, 0);
        int k = p.atom(3, 1);
        p.clause(0, 0, 1, p.two(0, p.call(k, one), p.call(k, one)));
        int node = p.handle(p.perform(0, one), 0, 0, x);
        ends("a second time", "3 0 3 3 1 -1", p, node);
        due.is("it has ended", "0: 3 0 3 3 1 -1", () -> p.run(9) + ": " + Due.states(p));
        p.start();
        due.is("it waits ahead of the second", "2: 1 0 2 3 1 -1", () -> p.run(2) + ": " + Due.states(p));
        due.is("and ends there", "1: 3 0 3 3 1 -1", () -> p.run(1) + ": " + Due.states(p));
        p.clause(0, 0, 1, p.call(k, p.call(k, one)));
        ends("in its own argument", "3 0 3 3 1 -1", p, p.handle(p.perform(0, one), 0, 0, x));
    }

    private static void unhandled() {
        EffectNodes p = new EffectNodes();
        int one = p.atom(0, 1);
        int x = p.atom(3, 0);
        p.clause(0, 0, 1, one);
        int node = p.handle(p.two(0, one, p.perform(6, one)), 64, 0, x);
        ends("no handler for it", "4 0 1 1 1 6", p, node);
        due.is("it has ended", "0: 4 0 1 1 1 6", () -> p.run(9) + ": " + Due.states(p));
        p.start();
        due.is("anew", "0: 1 0 0 1 1 -1", () -> p.run(0) + ": " + Due.states(p));
        ends("effect 0 is told as well", "4 0 1 0 0 0", p, p.perform(0, one));
    }

    /** rec f (x) = if x < 1 then last else (makes functions, then f (x - 1)) in f count */
    static int loop(EffectNodes p, int makes, int last, int count) {
        int type = p.function(0, 0, 255);
        int f = p.atom(3, 8);
        int x = p.atom(3, 9);
        int one = p.atom(0, 1);
        int again = p.call(f, p.two(1, x, one));
        int made = p.fn(7, 0, one);
        for (int i = 0; i < makes; i++) {
            again = p.let(7, made, again);
        }
        return p.rec(8, 9, type, p.choice(p.two(3, x, one), last, again), p.call(f, p.atom(0, count)));
    }

    private static void fullByFunctions() {
        EffectNodes p = new EffectNodes();
        int one = p.atom(0, 1);
        ends("just 1000", "2 1 334 1000 0 -1", p, loop(p, 3, one, 333));
        ends("a 1001st", "5 0 334 1000 334 -1", p, loop(p, 3, one, 334));
        due.is("it has ended", "0: 5 0 334 1000 334 -1", () -> p.run(9) + ": " + Due.states(p));
    }

    private static void fullByPerform() {
        EffectNodes p = new EffectNodes();
        int one = p.atom(0, 1);
        int x = p.atom(3, 0);
        int made = p.fn(7, 0, one);
        int body = loop(p, 3, p.perform(0, one), 248);
        for (int i = 0; i < 3; i++) {
            body = p.let(7, made, body);
        }
        p.clause(0, 0, 1, one);
        ends("1 handle, 3, 1 rec, 744, 1 and 250", "2 1 250 1000 0 -1", p, p.handle(body, 255, 0, x));
        p.clause(0, 0, 1, one);
        ends("one too many: none of those come", "5 0 250 750 250 -1", p, p.handle(p.let(7, made, body), 255, 0, x));
    }

    private static void deepByCall() {
        EffectNodes p = new EffectNodes();
        int one = p.atom(0, 1);
        ends("400 calls", "2 1 400 1 0 -1", p, loop(p, 0, one, 399));
        ends("a 401st", "6 0 401 1 400 -1", p, loop(p, 0, one, 400));
        due.is("it has ended", "0: 6 0 401 1 400 -1", () -> p.run(9) + ": " + Due.states(p));
        p.start();
        due.is("anew", "200: 1 0 200 1 200 -1", () -> p.run(200) + ": " + Due.states(p));
    }

    private static void deepByHandle() {
        EffectNodes p = new EffectNodes();
        int one = p.atom(0, 1);
        int handler = p.handle(one, 0, 0, p.atom(3, 0));
        ends("a handler as the 400th", "2 1 399 2 0 -1", p, loop(p, 0, handler, 398));
        ends("a handler as a 401st", "6 0 400 1 400 -1", p, loop(p, 0, handler, 399));
        int calling = p.handle(one, 0, 0, p.call(p.fn(0, 0, one), one));
        ends("return counts as its handler did", "6 0 400 3 400 -1", p, loop(p, 0, calling, 398));
        ends("one less", "2 1 399 3 0 -1", p, loop(p, 0, calling, 397));
    }

    private static void fullAheadOfDeep() {
        EffectNodes p = new EffectNodes();
        int one = p.atom(0, 1);
        int handler = p.handle(one, 0, 0, p.atom(3, 0));
        int main = loop(p, 2, handler, 399);
        ends("1000 THINGS and 400 DEPTH", "5 0 501 1000 400 -1", p, p.let(6, loop(p, 2, one, 100), main));
        ends("998 THINGS and 400 DEPTH", "6 0 500 998 400 -1", p, p.let(6, loop(p, 2, one, 99), main));
    }

    /** The clause goes on from inside a loop: its 202 come upon those that are there. */
    private static void deepByGoingOn() {
        int[] counts = {196, 197};
        String[] wanted = {"2 1 400 206 0 -1", "6 0 401 206 199 -1"};
        for (int i = 0; i < 2; i++) {
            EffectNodes p = new EffectNodes();
            int one = p.atom(0, 1);
            int k = p.atom(3, 1);
            int body = loop(p, 0, p.perform(0, one), 200);
            p.clause(0, 0, 1, loop(p, 0, p.call(k, one), counts[i]));
            ends("DEPTH " + (203 + 1 + counts[i]), wanted[i], p, p.handle(body, 255, 0, p.atom(3, 0)));
        }
        EffectNodes p = new EffectNodes();
        int one = p.atom(0, 1);
        int k = p.atom(3, 1);
        int body = loop(p, 0, p.perform(0, one), 200);
        p.clause(0, 0, 1, p.let(6, p.call(k, one), loop(p, 0, p.call(k, one), 197)));
        ends("TWICE ahead of DEEP", "3 0 402 206 199 -1", p, p.handle(body, 255, 0, p.atom(3, 0)));
    }

    private static void recFull() {
        EffectNodes p = new EffectNodes();
        int one = p.atom(0, 1);
        int main = loop(p, 3, p.rec(0, 1, p.function(0, 0, 255), one, one), 333);
        ends("a rec is a THING", "5 0 334 1000 334 -1", p, main);
        int other = loop(p, 3, p.handle(one, 0, 0, one), 333);
        ends("so is a handle", "5 0 334 1000 334 -1", p, other);
    }

    /** The handler that is found stands under all that DEPTH allows. */
    private static void allTheDepth() {
        EffectNodes p = new EffectNodes();
        int one = p.atom(0, 1);
        int k = p.atom(3, 3);
        p.clause(0, 4, 3, p.atom(3, 4));
        int dropped = p.handle(loop(p, 0, p.perform(0, p.atom(0, 6)), 398), 255, 5, p.atom(3, 5));
        ends("400 are dropped", "2 6 400 403 0 -1", p, dropped);
        p.clause(0, 4, 3, p.call(k, one));
        int gone = p.handle(loop(p, 0, p.perform(0, one), 398), 255, 5, p.two(0, p.atom(3, 5), one));
        ends("400 upon the clause are one too many", "6 0 401 403 1 -1", p, gone);
        p.clause(0, 4, 3, p.call(k, one));
        int less = p.handle(loop(p, 0, p.perform(0, one), 397), 255, 5, p.two(0, p.atom(3, 5), one));
        ends("399 are not", "2 2 400 402 0 -1", p, less);
        ends("and once more", "2 2 400 402 0 -1", p, less);
    }

    private static void eightClauses() {
        for (int e = 0; e < 8; e++) {
            EffectNodes p = new EffectNodes();
            int x = p.atom(3, 6);
            for (int own = 7; own >= 0; own--) {
                p.clause(own, 6, 2, p.two(0, x, p.atom(0, own)));
            }
            ends("effect " + e, "2 " + (40 + e) + " 1 3 0 -1", p, p.handle(p.perform(e, p.atom(0, 40)), 0, 1, p.atom(3, 1)));
        }
    }

    /** One node more around an int EXPR, in which its name 5 is known, so that it stands as the given part. */
    private static int around(EffectNodes p, int how, int part) {
        int one = 0;
        int yes = 1;
        int same = 2;
        int k = 3;
        switch (how) {
            case 0:
                return p.let(5, part, one);
            case 1:
                return p.let(5, one, part);
            case 2:
                return p.rec(5, 6, 3, part, one);
            case 3:
                return p.rec(6, 7, 3, one, part);
            case 4:
                return p.choice(yes, part, one);
            case 5:
                return p.choice(yes, one, part);
            case 6:
                return p.two(0, part, one);
            case 7:
                return p.two(0, one, part);
            case 8:
                return p.call(same, part);
            case 9:
                return p.handle(part, 255, 4, one);
            case 10:
                return p.handle(one, 255, 4, part);
            case 11:
                p.clause(0, 4, 4, part);
                return p.handle(k, 255, 4, one);
            default:
                return p.perform(1, part);
        }
    }

    private static void fortyLevels() {
        for (int how = 0; how <= 12; how++) {
            EffectNodes p = new EffectNodes();
            p.atom(0, 1);
            p.atom(1, 1);
            p.fn(8, 0, 0);
            p.perform(0, 0);
            p.function(0, 0, 255);
            int node = p.two(0, p.atom(0, 5), p.atom(0, 0));
            for (int level = 3; level <= 40; level++) {
                node = around(p, how, node);
            }
            int good = node;
            int deep = around(p, how == 11 ? 10 : how, node);
            int kind = how;
            due.is("40 levels of " + kind, how == 12 ? 4 : 2, () -> {
                p.check(good);
                Due.worked(p);
                return p.state(0);
            });
            due.illegalState("41 levels of " + kind, () -> p.check(deep));
            if (how == 7) {
                due.is("all were worked", 5 + 38, () -> p.state(1));
            }
            if (how == 8) {
                due.is("all were called", "1 38", () -> p.state(1) + " " + p.state(2));
            }
        }
        fortyFunctions();
    }

    /** Each function calls the next one inside it, which stands one level deeper. */
    private static void fortyFunctions() {
        EffectNodes p = new EffectNodes();
        int one = p.atom(0, 1);
        int node = p.atom(3, 0);
        for (int level = 2; level <= 40; level++) {
            node = p.fn(0, 0, node);
        }
        int inner = node;
        due.is("39 functions", "41 | 0 -1 0", () -> Due.checked(p, inner));
        int called = p.call(inner, one);
        due.illegalState("and a call", () -> p.check(called));
    }

    /** A call that comes back leaves nothing behind: DEPTH, THINGS and room do not grow. */
    private static void longRuns() {
        EffectNodes p = new EffectNodes();
        int one = p.atom(0, 1);
        int f = p.atom(3, 1);
        int x = p.atom(3, 2);
        int down = p.call(f, p.two(1, x, one));
        int type = p.function(0, 0, 0);
        int body = p.choice(p.two(3, x, one), one, p.two(0, down, down));
        p.check(p.rec(1, 2, type, body, p.call(f, p.atom(0, 14))));
        p.start();
        for (int i = 0; i < 163; i++) {
            due.is("200 more", 200, () -> p.run(200));
        }
        due.is("the last", "167: 2 16384 32767 1 0 -1", () -> p.run(200) + ": " + Due.states(p));
    }
}
