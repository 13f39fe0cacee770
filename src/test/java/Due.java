/** Counts the answers of one test and ends it: exit code 1 if one is not the one that is due. */
final class Due {
    interface Call {
        Object answer();
    }

    private final String test;
    private int asked = 0;
    private int wrong = 0;

    Due(String test) {
        this.test = test;
    }

    /** The answer of a call as a text: a value, or the exact exception that it throws. */
    static String answerOf(Call call) {
        try {
            return String.valueOf(call.answer());
        } catch (RuntimeException e) {
            return "throws." + e.getClass().getSimpleName();
        }
    }

    void is(String what, Object want, Call call) {
        asked++;
        String got = answerOf(call);
        if (!got.equals(String.valueOf(want))) {
            wrong++;
            System.out.println(test + ": " + what + " answered " + got + ", due is " + want);
        }
    }

    void index(String what, Call call) {
        is(what, "throws.IndexOutOfBoundsException", call);
    }

    void illegalState(String what, Call call) {
        is(what, "throws.IllegalStateException", call);
    }

    void illegalArgument(String what, Call call) {
        is(what, "throws.IllegalArgumentException", call);
    }

    /** state(0) to state(5) in one text. */
    static String states(EffectNodes p) {
        StringBuilder all = new StringBuilder();
        for (int what = 0; what <= 5; what++) {
            all.append(what == 0 ? "" : " ").append(p.state(what));
        }
        return all.toString();
    }

    /** fault(0) to fault(2) in one text. */
    static String faults(EffectNodes p) {
        return p.fault(0) + " " + p.fault(1) + " " + p.fault(2);
    }

    /** check(), then what it came to: a type, or the exception, and the faults. */
    static String checked(EffectNodes p, int node) {
        return answerOf(() -> p.check(node)) + " | " + faults(p);
    }

    /** start() and run(200) until it ends: how much fuel was taken. */
    static int worked(EffectNodes p) {
        p.start();
        int all = 0;
        for (int i = 0; i < 100 && p.state(0) == 1; i++) {
            all += p.run(200);
        }
        return all;
    }

    void end() {
        System.out.println(test + ": " + asked + " asked, " + wrong + " wrong");
        if (wrong != 0) {
            System.exit(1);
        }
    }
}
