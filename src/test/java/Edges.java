/**
 * Asks at the edges of a promise: a call that is refused, after which all is as on a twin that was
 * never asked, and the last one that is not refused.
 */
final class Edges {
    static final String INDEX = "throws.IndexOutOfBoundsException";
    static final String STATE = "throws.IllegalStateException";
    static final String ARGUMENT = "throws.IllegalArgumentException";

    static final int MIN = Integer.MIN_VALUE;
    static final int MAX = Integer.MAX_VALUE;

    interface Maker {
        EffectNodes make();
    }

    interface Ask {
        Object of(EffectNodes p);
    }

    private final Due due;

    Edges(Due due) {
        this.due = due;
    }

    void refused(String what, String how, Maker maker, Ask ask) {
        EffectNodes asked = maker.make();
        due.is(what, how, () -> ask.of(asked));
        due.is(what + " changes nothing", allOf(maker.make()), () -> allOf(asked));
    }

    void accepted(String what, Object want, Maker maker, Ask ask) {
        due.is(what, want, () -> ask.of(maker.make()));
    }

    /**
     * Nodes 0 to 9 with 0 a number, 1 a truth, 2 nothing, 3 the name 4; function types 3 and 4; effect 7
     * takes bool and gives unit; node 9 is the program, which has begun and waits for fuel; one clause is
     * ready.
     */
    static EffectNodes few() {
        EffectNodes p = new EffectNodes();
        p.atom(0, 1);
        p.atom(1, 1);
        p.atom(2, 0);
        p.atom(3, 4);
        p.function(0, 0, 0);
        p.function(1, 2, 255);
        p.effect(7, 1, 2);
        p.perform(0, 0);
        p.two(0, 4, 4);
        p.atom(3, 1);
        p.call(6, 0);
        p.clause(0, 0, 1, 7);
        p.atom(3, 0);
        p.handle(5, 0, 0, 8);
        p.check(9);
        p.start();
        p.run(1);
        p.clause(1, 2, 3, 0);
        return p;
    }

    /** The object of few() with more numbers told, up to so many nodes. */
    static EffectNodes withNodes(int count) {
        EffectNodes p = few();
        for (int i = 10; i < count; i++) {
            p.atom(0, i);
        }
        return p;
    }

    /** The object of few() with more function types told, up to so many: 3 to count + 2. */
    static EffectNodes withTypes(int count) {
        EffectNodes p = few();
        for (int row = 1; row <= count - 2; row++) {
            p.function(0, 0, row);
        }
        return p;
    }

    /** All that can be seen of an object, and then how it goes on, in one text. */
    static String allOf(EffectNodes p) {
        StringBuilder all = new StringBuilder(Due.faults(p)).append(" / ").append(Due.states(p)).append(" /");
        for (int t = 3; t <= 63 && p.type(t, 0) != -1; t++) {
            all.append(" ").append(p.type(t, 0)).append(":").append(p.type(t, 1)).append(":").append(p.type(t, 2));
        }
        goesOn(all, p);
        add(all, "clause", () -> p.clause(7, 9, 9, 0));
        add(all, "function", () -> p.function(2, 2, 254));
        add(all, "atom", () -> p.atom(2, 0));
        for (int e = 0; e < 8; e++) {
            for (int node = 0; node < 3; node++) {
                declared(all, p, e, node);
            }
        }
        add(all, "handle", () -> Due.checked(p, p.handle(0, 255, 0, 0)));
        return all.toString();
    }

    private static void add(StringBuilder all, String what, Due.Call call) {
        all.append(" / ").append(what).append(" ").append(Due.answerOf(call));
    }

    private static void goesOn(StringBuilder all, EffectNodes p) {
        for (int n : new int[] {1, 200}) {
            add(all, "run", () -> p.run(n) + ": " + Due.states(p));
        }
        add(all, "anew", () -> {
            p.start();
            return p.run(200) + ": " + Due.states(p);
        });
    }

    private static void declared(StringBuilder all, EffectNodes p, int e, int node) {
        add(all, "effect " + e, () -> Due.checked(p, p.perform(e, node)));
    }
}
