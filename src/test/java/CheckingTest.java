/** Promises 15 to 18: check, fault, type, fits. */
final class CheckingTest {
    private static final Due due = new Due("CheckingTest");
    private static final String BAD = "throws.IllegalArgumentException | ";

    public static void main(String[] args) {
        names();
        signs();
        choices();
        functions();
        recs();
        calls();
        performs();
        handles();
        handleFaults();
        orderOfFaults();
        sizes();
        refusals();
        numbering();
        tooManyTypes();
        faultsOfOtherWhats();
        types();
        fitting();
        due.end();
    }

    private static void is(String what, String want, EffectNodes p, int node) {
        due.is(what, want, () -> Due.checked(p, node));
    }

    private static void names() {
        EffectNodes p = new EffectNodes();
        int one = p.atom(0, 1);
        int yes = p.atom(1, 1);
        int x = p.atom(3, 0);
        int y = p.atom(3, 1);
        is("a name that is none", BAD + "5 2 -1", p, x);
        is("let binds", "0 | 0 -1 0", p, p.let(0, one, x));
        is("let does not bind in its first", BAD + "5 2 -1", p, p.let(0, x, one));
        is("let binds its name alone", BAD + "5 3 -1", p, p.let(0, one, y));
        is("the inner one counts", "1 | 0 -1 0", p, p.let(0, one, p.let(0, yes, x)));
        is("the outer one comes back", "0 | 0 -1 0", p, p.let(0, one, p.two(0, p.let(0, one, x), x)));
        is("a scope ends", BAD + "5 2 -1", p, p.two(0, p.let(0, one, x), x));
        is("let in let's first", "0 | 0 -1 0", p, p.let(0, p.let(0, one, x), x));
    }

    private static void signs() {
        EffectNodes p = new EffectNodes();
        int one = p.atom(0, 1);
        int yes = p.atom(1, 1);
        int unit = p.atom(2, 0);
        for (int sign = 0; sign < 5; sign++) {
            is("sign " + sign, (sign < 3 ? 0 : 1) + " | 0 -1 0", p, p.two(sign, one, one));
            is("a second bool", BAD + "6 1 -1", p, p.two(sign, one, yes));
            is("a first unit", BAD + "6 2 -1", p, p.two(sign, unit, one));
            is("both wrong", BAD + "6 2 -1", p, p.two(sign, unit, yes));
        }
        int effects = p.two(3, p.perform(1, one), p.perform(6, one));
        is("effects of both", "1 | 0 -1 66", p, effects);
        int free = p.atom(3, 0);
        is("both operands end ahead of the rule", BAD + "5 " + free + " -1", p, p.two(0, yes, free));
    }

    private static void choices() {
        EffectNodes p = new EffectNodes();
        int one = p.atom(0, 1);
        int yes = p.atom(1, 1);
        int unit = p.atom(2, 0);
        int free = p.atom(3, 0);
        is("if", "0 | 0 -1 0", p, p.choice(yes, one, one));
        is("of unit", "2 | 0 -1 0", p, p.choice(yes, unit, unit));
        is("no bool", BAD + "6 0 -1", p, p.choice(one, one, one));
        is("not the same", BAD + "6 2 -1", p, p.choice(yes, one, unit));
        is("no bool, ahead of a name in the second", BAD + "6 0 -1", p, p.choice(one, free, one));
        is("a name in the second, ahead of the third", BAD + "5 3 -1", p, p.choice(yes, free, unit));
        int pure = p.fn(0, 0, one);
        int performs = p.perform(0, one);
        int impure = p.fn(0, 0, performs);
        is("just the type: rows count", BAD + "6 " + impure + " -1", p, p.choice(yes, pure, impure));
        is("effects of all three", "0 | 0 -1 7", p,
                p.choice(p.two(3, p.perform(0, one), one), p.perform(1, one), p.perform(2, one)));
    }

    private static void functions() {
        EffectNodes p = new EffectNodes();
        int one = p.atom(0, 1);
        int x = p.atom(3, 4);
        is("fn gives its body", "3 | 0 -1 0", p, p.fn(4, 1, x));
        due.is("its type", "1 1 0", () -> p.type(3, 0) + " " + p.type(3, 1) + " " + p.type(3, 2));
        is("fn has no effects, its type has", "4 | 0 -1 0", p, p.fn(4, 0, p.perform(3, x)));
        due.is("its type", "0 0 8", () -> p.type(4, 0) + " " + p.type(4, 1) + " " + p.type(4, 2));
        is("the outer names are there", "5 | 0 -1 0", p, p.let(4, one, p.fn(5, 2, x)));
        is("its name ends with it", BAD + "5 1 -1", p, p.let(0, p.fn(4, 0, x), x));
    }

    private static void recs() {
        EffectNodes p = new EffectNodes();
        int one = p.atom(0, 1);
        int yes = p.atom(1, 1);
        int f = p.atom(3, 1);
        int x = p.atom(3, 2);
        int pure = p.function(0, 0, 0);
        int impure = p.function(0, 0, 3);
        int higher = p.function(0, impure, 0);
        int calls = p.call(f, x);
        is("rec", "0 | 0 -1 0", p, p.rec(1, 2, pure, calls, p.call(f, one)));
        is("the rest has the type", "1 | 0 -1 0", p, p.rec(1, 2, pure, calls, yes));
        is("f is the function", pure + " | 0 -1 0", p, p.rec(1, 2, pure, calls, f));
        is("x ends with the body", BAD + "5 3 -1", p, p.rec(1, 2, pure, calls, x));
        is("f ends with the rec", BAD + "5 2 -1", p, p.let(0, p.rec(1, 2, pure, x, one), f));
        is("a wrong body", BAD + "6 1 -1", p, p.rec(1, 2, pure, yes, one));
        int performs = p.perform(2, x);
        is("a body with effects beyond", BAD + "7 " + performs + " -1", p, p.rec(1, 2, impure, performs, one));
        is("a wrong body, ahead of the rest", BAD + "6 1 -1", p, p.rec(1, 2, pure, yes, p.atom(3, 7)));
        is("effects beyond, ahead of the rest", BAD + "7 " + performs + " -1", p,
                p.rec(1, 2, pure, performs, p.atom(3, 7)));
        int wrongTwice = p.two(3, performs, one);
        is("wrong type ahead of effects", BAD + "6 " + wrongTwice + " -1", p, p.rec(1, 2, pure, wrongTwice, one));
        is("effects of the rest alone", "0 | 0 -1 0", p, p.rec(1, 2, impure, p.perform(1, x), one));
        is("a call has the row", "0 | 0 -1 3", p, p.rec(1, 2, impure, p.perform(1, x), p.call(f, one)));
        is("a body that fits", "0 | 0 -1 0", p, p.rec(1, 2, higher, p.fn(0, 0, one), one));
        int tooMuch = p.fn(0, 0, performs);
        is("a body that does not", BAD + "6 " + tooMuch + " -1", p, p.rec(1, 2, higher, tooMuch, one));
        is("both names one: the argument in the body", "0 | 0 -1 0", p,
                p.rec(1, 1, pure, p.two(0, f, one), p.call(f, one)));
        is("both names one: no function there", BAD + "6 2 -1", p, p.rec(1, 1, pure, p.call(f, one), one));
        is("both names one: it ends", BAD + "5 2 -1", p, p.let(0, p.rec(1, 1, pure, f, one), f));
        is("and what it hid comes back", "1 | 0 -1 0", p, p.let(1, yes, p.let(0, p.rec(1, 1, pure, f, one), f)));
    }

    private static void calls() {
        EffectNodes p = new EffectNodes();
        int one = p.atom(0, 1);
        int yes = p.atom(1, 1);
        int free = p.atom(3, 0);
        int less = p.function(0, 0, 1);
        int more = p.function(0, 0, 3);
        int g = p.atom(3, 1);
        int f = p.fn(1, less, one);
        is("no function", BAD + "6 0 -1", p, p.call(one, one));
        is("no function, ahead of the argument", BAD + "6 1 -1", p, p.call(yes, free));
        is("an argument that does not fit", BAD + "6 1 -1", p, p.call(p.fn(0, 0, one), yes));
        is("a name in the argument", BAD + "5 2 -1", p, p.call(p.fn(0, 0, one), free));
        is("an argument with fewer effects", "0 | 0 -1 0", p, p.call(f, p.fn(2, 0, one)));
        int two = p.fn(2, 0, p.two(0, p.perform(0, one), p.perform(1, one)));
        is("an argument with more", BAD + "6 " + two + " -1", p, p.call(f, two));
        is("it fits the bigger row", "0 | 0 -1 0", p, p.call(p.fn(1, more, one), two));
        int performing = p.fn(1, 0, p.perform(4, g));
        is("its row's effects, too", "0 | 0 -1 28", p,
                p.call(p.let(5, p.perform(2, one), performing), p.perform(3, one)));
    }

    private static void performs() {
        EffectNodes p = new EffectNodes();
        int one = p.atom(0, 1);
        int yes = p.atom(1, 1);
        int pure = p.function(0, 0, 0);
        int impure = p.function(0, 0, 1);
        p.effect(5, impure, 1);
        int f = p.fn(0, 0, one);
        is("the argument fits", "1 | 0 -1 32", p, p.perform(5, f));
        is("it is wrong", BAD + "6 1 -1", p, p.perform(5, yes));
        p.effect(5, pure, pure);
        int g = p.fn(0, 0, p.perform(0, one));
        is("it does not fit", BAD + "6 " + g + " -1", p, p.perform(5, g));
        is("effects of the argument, too", "0 | 0 -1 3", p, p.perform(1, p.perform(0, one)));
        is("what it gives", pure + " | 0 -1 32", p, p.perform(5, f));
    }

    private static void handles() {
        EffectNodes p = new EffectNodes();
        int one = p.atom(0, 1);
        int yes = p.atom(1, 1);
        int unit = p.atom(2, 0);
        int x = p.atom(3, 0);
        int k = p.atom(3, 1);
        is("return has the body's type", "0 | 0 -1 0", p, p.handle(one, 0, 0, x));
        is("its EXPR's type is the answer", "1 | 0 -1 0", p, p.handle(one, 0, 0, p.two(3, x, one)));
        is("its name ends with it", BAD + "5 3 -1", p, p.let(9, p.handle(one, 0, 0, x), x));
        is("it is not in the body", BAD + "5 3 -1", p, p.handle(x, 0, 0, one));
        is("ROW is the effects", "0 | 0 -1 200", p, p.handle(one, 200, 0, x));
        p.effect(2, 1, 2);
        p.clause(2, 0, 1, p.choice(x, p.call(k, unit), one));
        int body = p.let(5, p.perform(2, yes), one);
        int handler = p.handle(body, 0, 0, x);
        is("clause: the argument's and the continuation's types", "0 | 0 -1 0", p, handler);
        due.is("the continuation's type came up", "2 0 0", () -> p.type(3, 0) + " " + p.type(3, 1) + " " + p.type(3, 2));
        p.clause(2, 1, 1, p.call(k, unit));
        is("one name for both: the continuation", "0 | 0 -1 64", p, p.handle(body, 64, 0, x));
        due.is("its row", 64, () -> p.type(4, 2));
        p.clause(2, 0, 1, one);
        is("a clause's names end with it", BAD + "5 4 -1", p, p.let(9, p.handle(body, 0, 0, x), k));
        p.clause(2, 0, 1, one);
        is("a clause does not see return's name", BAD + "5 3 -1", p, p.let(9, p.handle(body, 0, 8, one), x));
        p.clause(2, 0, 1, p.fn(7, 0, one));
        int fits = p.handle(p.let(5, p.perform(2, yes), p.fn(7, 0, p.perform(0, one))), 0, 0, x);
        is("a clause whose type fits", "5 | 0 -1 0", p, fits);
        p.clause(0, 0, 1, p.perform(0, one));
        is("a clause may perform its own effect within ROW", "0 | 0 -1 1", p, p.handle(p.perform(0, one), 1, 0, x));
        p.clause(0, 0, 1, one);
        is("clauses take the body's effects, ROW the others", "0 | 0 -1 2", p,
                p.handle(p.two(0, p.perform(0, one), p.perform(1, one)), 2, 0, x));
    }

    private static void handleFaults() {
        EffectNodes p = new EffectNodes();
        int one = p.atom(0, 1);
        int yes = p.atom(1, 1);
        int free = p.atom(3, 9);
        int perform0 = p.perform(0, one);
        int perform1 = p.perform(1, one);
        p.clause(0, 0, 1, one);
        p.clause(0, 0, 1, yes);
        is("two for one effect: the second's EXPR", BAD + "8 1 -1", p, p.handle(one, 0, 0, one));
        p.clause(0, 0, 1, one);
        p.clause(0, 0, 1, free);
        is("ahead of that EXPR", BAD + "8 2 -1", p, p.handle(one, 0, 0, one));
        p.clause(0, 0, 1, yes);
        p.clause(0, 0, 1, one);
        is("behind the first one's", BAD + "6 1 -1", p, p.handle(one, 0, 0, one));
        p.clause(0, 0, 1, one);
        p.clause(0, 0, 1, one);
        is("behind the body's", BAD + "5 2 -1", p, p.handle(free, 0, 0, one));
        p.clause(0, 0, 1, one);
        p.clause(0, 0, 1, one);
        is("behind return's row", BAD + "7 3 -1", p, p.handle(one, 0, 0, perform0));
        p.clause(0, 0, 1, yes);
        is("a clause of another type", BAD + "6 1 -1", p, p.handle(one, 0, 0, one));
        p.clause(0, 0, 1, perform1);
        is("a clause's effects", BAD + "7 4 -1", p, p.handle(one, 1, 0, one));
        int wrongTwice = p.two(3, perform1, one);
        p.clause(0, 0, 1, wrongTwice);
        is("a clause's type ahead of its effects", BAD + "6 " + wrongTwice + " -1", p, p.handle(one, 0, 0, one));
        p.clause(0, 0, 1, free);
        is("return's effects ahead of a clause", BAD + "7 4 -1", p, p.handle(one, 1, 0, perform1));
        p.clause(0, 0, 1, perform0);
        is("return's effects are not handled", BAD + "7 3 -1", p, p.handle(one, 0, 0, perform0));
        p.clause(0, 0, 1, one);
        is("the body's effects", BAD + "7 4 -1", p, p.handle(perform1, 1, 0, one));
        p.clause(0, 0, 1, yes);
        is("the body's effects behind the clauses", BAD + "6 1 -1", p, p.handle(perform1, 1, 0, one));
        is("without clauses: return ahead of the body", BAD + "7 3 -1", p, p.handle(perform1, 0, 0, perform0));
        is("the body ahead of return", BAD + "5 2 -1", p, p.handle(free, 0, 0, perform0));
        p.clause(0, 0, 1, p.call(p.atom(3, 1), one));
        is("a continuation has ROW", "0 | 0 -1 4", p, p.handle(perform0, 4, 0, one));
    }

    private static void orderOfFaults() {
        EffectNodes p = new EffectNodes();
        int one = p.atom(0, 1);
        int yes = p.atom(1, 1);
        int a = p.atom(3, 0);
        int b = p.atom(3, 1);
        is("the left name", BAD + "5 2 -1", p, p.two(0, a, b));
        is("parts ahead of the whole", BAD + "5 3 -1", p, p.two(0, yes, b));
        is("a used node counts where it stands", BAD + "5 2 -1", p, p.two(0, p.let(0, one, a), a));
        is("and not where it is bound", "0 | 0 -1 0", p, p.two(0, p.let(0, one, a), p.let(0, one, a)));
    }

    /** An int EXPR of just so many nodes. */
    private static int ofSize(EffectNodes p, int size) {
        if (size == 1) {
            return p.atom(0, 1);
        }
        if (size % 2 == 0) {
            return p.perform(0, ofSize(p, size - 1));
        }
        int half = ofSize(p, size / 2);
        return p.two(0, half, half);
    }

    private static int ofDepth(EffectNodes p, int depth) {
        int node = p.atom(0, 1);
        for (int i = 1; i < depth; i++) {
            node = p.perform(0, node);
        }
        return node;
    }

    private static void sizes() {
        EffectNodes p = new EffectNodes();
        is("400 nodes", "0 | 0 -1 1", p, ofSize(p, 400));
        is("401 nodes", "throws.IllegalStateException | 0 -1 1", p, ofSize(p, 401));
        int huge = p.atom(0, 1);
        for (int i = 0; i < 70; i++) {
            huge = p.two(0, huge, huge);
        }
        is("2^71 nodes", "throws.IllegalStateException | 0 -1 1", p, huge);
        EffectNodes q = new EffectNodes();
        int deep = ofDepth(q, 40);
        is("40 deep", "0 | 0 -1 1", q, deep);
        is("41 deep", "throws.IllegalStateException | 0 -1 1", q, q.perform(0, deep));
        q.clause(0, 0, 0, deep);
        is("41 deep by a clause", "throws.IllegalStateException | 0 -1 1", q, q.handle(0, 0, 0, 0));
        int one = q.atom(0, 1);
        is("41 deep by a third", "throws.IllegalStateException | 0 -1 1", q, q.choice(one, one, deep));
        EffectNodes r = new EffectNodes();
        int big = ofSize(r, 99);
        for (int e = 0; e < 2; e++) {
            r.clause(e, 0, 0, big);
        }
        int whole = r.handle(big, 1, 0, big);
        for (int i = 0; i < 3; i++) {
            whole = r.perform(0, whole);
        }
        is("400 nodes with two clauses, which are none themselves", "0 | 0 -1 1", r, whole);
        is("401 nodes with two clauses", "throws.IllegalStateException | 0 -1 1", r, r.perform(0, whole));
    }

    private static void refusals() {
        EffectNodes p = new EffectNodes();
        int one = p.atom(0, 1);
        int good = p.perform(3, one);
        due.index("no node", () -> p.check(2));
        due.index("a node below", () -> p.check(-1));
        p.check(good);
        p.start();
        p.run(1);
        due.is("it runs", "4 0 1 0 0 3", () -> Due.states(p));
        due.index("no such node", () -> p.check(99));
        due.is("that leaves the program", "4 0 1 0 0 3", () -> Due.states(p));
        int big = ofSize(p, 401);
        is("too big", "throws.IllegalStateException | 0 -1 8", p, big);
        due.is("that leaves it, too", "4 0 1 0 0 3", () -> Due.states(p));
        int bad = p.two(0, one, p.atom(2, 0));
        is("a fault", BAD + "6 " + (bad - 1) + " -1", p, bad);
        due.is("there is no program then", "0 0 0 0 0 -1", () -> Due.states(p));
        due.illegalState("none to start", () -> { p.start(); return 0; });
        due.illegalState("none to run", () -> p.run(1));
        is("too big keeps the fault", "throws.IllegalStateException | 6 " + (bad - 1) + " -1", p, big);
        due.index("no node keeps the fault", () -> p.check(-5));
        due.is("it is kept", "6 " + (bad - 1) + " -1", () -> Due.faults(p));
        is("a good one", "0 | 0 -1 8", p, good);
        due.is("it has not begun", "0 0 0 0 0 -1", () -> Due.states(p));
        due.illegalState("not begun", () -> p.run(1));
    }

    private static void numbering() {
        EffectNodes p = new EffectNodes();
        int one = p.atom(0, 1);
        int yes = p.atom(1, 1);
        int inner = p.fn(0, 1, one);
        int outer = p.fn(0, 2, inner);
        is("fn behind its EXPR", "4 | 0 -1 0", p, outer);
        due.is("the inner one", "1 0 0", () -> p.type(3, 0) + " " + p.type(3, 1) + " " + p.type(3, 2));
        due.is("the outer one", "2 3 0", () -> p.type(4, 0) + " " + p.type(4, 1) + " " + p.type(4, 2));
        due.is("they are told", 4, () -> p.function(2, 3, 0));
        due.is("the next one", 5, () -> p.function(2, 4, 0));
        p.effect(1, 0, 1);
        p.clause(1, 0, 1, p.let(0, p.fn(0, 0, yes), one));
        int handler = p.handle(p.let(0, p.fn(0, 1, yes), one), 16, 0, p.let(0, p.fn(0, 2, yes), one));
        is("a handler", "0 | 0 -1 16", p, handler);
        due.is("body, return, continuation, clause", "1 1 0, 2 1 0, 1 0 16, 0 1 0", () -> {
            StringBuilder all = new StringBuilder();
            for (int t = 6; t < 10; t++) {
                all.append(t == 6 ? "" : ", ").append(p.type(t, 0)).append(" ").append(p.type(t, 1));
                all.append(" ").append(p.type(t, 2));
            }
            return all;
        });
        due.is("no more", -1, () -> p.type(10, 0));
        int bad = p.two(0, p.let(0, p.fn(0, 0, p.atom(2, 0)), one), yes);
        is("a fault behind a new type", BAD + "6 1 -1", p, bad);
        due.is("no types come of it", -1, () -> p.type(10, 0));
        due.is("it does not fit itself either", false, () -> p.fits(10, 10));
        due.is("the number is free", 10, () -> p.function(2, 2, 9));
    }

    private static void tooManyTypes() {
        EffectNodes p = new EffectNodes();
        for (int row = 0; row < 59; row++) {
            p.function(0, 0, row);
        }
        int one = p.atom(0, 1);
        int first = p.fn(0, 1, one);
        int second = p.fn(0, 2, one);
        int both = p.let(0, first, second);
        is("a 61st", BAD + "9 -1 -1", p, both);
        due.is("none came of it", -1, () -> p.type(62, 0));
        due.is("no program", 0, () -> p.state(0));
        int wrong = p.let(0, both, p.atom(3, 5));
        is("a FAULT goes ahead, also behind it", BAD + "5 " + (wrong - 1) + " -1", p, wrong);
        is("the 60th", "62 | 0 -1 0", p, first);
        is("one of the 60", "62 | 0 -1 0", p, first);
        is("a 61st again", BAD + "9 -1 -1", p, second);
        due.is("the others stay", "1 0 0", () -> p.type(62, 0) + " " + p.type(62, 1) + " " + p.type(62, 2));
        manyTypesAtOnce();
    }

    /** Far more types than 60 in one program: the fault behind them is found. */
    private static void manyTypesAtOnce() {
        EffectNodes p = new EffectNodes();
        int free = p.atom(3, 7);
        int good = p.atom(0, 1);
        int bad = free;
        for (int i = 0; i < 12; i++) {
            int argument = p.function(0, 0, 1 + i);
            int chain = p.atom(0, 1);
            for (int j = 0; j < 10; j++) {
                chain = p.fn(0, argument, chain);
            }
            good = p.let(0, chain, good);
            bad = p.let(0, chain, bad);
        }
        is("132 types", BAD + "9 -1 -1", p, good);
        is("a fault behind them", BAD + "5 " + free + " -1", p, bad);
        due.is("none came of it", "15 true false", () -> p.function(1, 1, 1) + " " + p.fits(3, 3) + " " + p.fits(16, 16));
    }

    private static void faultsOfOtherWhats() {
        EffectNodes p = new EffectNodes();
        for (int what : new int[] {-1, 3, 4, Integer.MAX_VALUE, Integer.MIN_VALUE}) {
            due.is("fault " + what, -1, () -> p.fault(what));
        }
        due.is("none at first", "0 -1 0", () -> Due.faults(p));
    }

    private static void types() {
        EffectNodes p = new EffectNodes();
        p.function(1, 2, 77);
        for (int what = -1; what <= 3; what++) {
            int w = what;
            for (int t : new int[] {-1, 0, 1, 2, 4, 62, 63, Integer.MAX_VALUE, Integer.MIN_VALUE}) {
                due.is("type " + t + " " + w, -1, () -> p.type(t, w));
            }
        }
        due.is("argument", 1, () -> p.type(3, 0));
        due.is("result", 2, () -> p.type(3, 1));
        due.is("row", 77, () -> p.type(3, 2));
        due.is("another what", -1, () -> p.type(3, 3));
        due.is("a what below", -1, () -> p.type(3, -1));
    }

    private static void fitting() {
        EffectNodes p = new EffectNodes();
        for (int a = 0; a < 3; a++) {
            for (int b = 0; b < 3; b++) {
                int x = a;
                int y = b;
                due.is("fits " + a + " " + b, a == b, () -> p.fits(x, y));
            }
        }
        due.is("no such type", false, () -> p.fits(3, 3));
        due.is("none below", false, () -> p.fits(-1, -1));
        int none = p.function(0, 0, 0);
        int one = p.function(0, 0, 1);
        int two = p.function(0, 0, 2);
        due.is("fewer effects", true, () -> p.fits(none, one));
        due.is("more effects", false, () -> p.fits(one, none));
        due.is("other effects", false, () -> p.fits(one, two));
        due.is("itself", true, () -> p.fits(two, two));
        due.is("no function", false, () -> p.fits(0, none));
        due.is("of no function", false, () -> p.fits(none, 0));
        int takesNone = p.function(none, 0, 0);
        int takesOne = p.function(one, 0, 0);
        int givesNone = p.function(0, none, 0);
        int givesOne = p.function(0, one, 0);
        due.is("arguments the other way", true, () -> p.fits(takesOne, takesNone));
        due.is("arguments this way", false, () -> p.fits(takesNone, takesOne));
        due.is("results this way", true, () -> p.fits(givesNone, givesOne));
        due.is("results the other way", false, () -> p.fits(givesOne, givesNone));
        int twice = p.function(takesNone, givesNone, 4);
        int other = p.function(takesOne, givesOne, 12);
        due.is("two levels", true, () -> p.fits(twice, other));
        due.is("two levels back", false, () -> p.fits(other, twice));
        longTypes();
    }

    /** Types whose tree doubles at each level: fits must end all the same. */
    private static void longTypes() {
        EffectNodes p = new EffectNodes();
        int a = p.function(0, 0, 0);
        int b = p.function(0, 0, 1);
        for (int i = 0; i < 29; i++) {
            int x = a;
            int y = b;
            a = p.function(y, x, 0);
            b = p.function(x, y, 1);
        }
        int last = a;
        int other = b;
        due.is("long", true, () -> p.fits(last, other));
        due.is("long back", false, () -> p.fits(other, last));
    }
}
