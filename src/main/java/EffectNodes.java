import java.util.ArrayList;
import java.util.Arrays;

/**
 * Programs of a language with effects and handlers, told node by node, checked, compiled and run.
 *
 * Checked programs are sound, so a value needs no tag at run time: each is one int, and that of a
 * function is the number of the thing that was made for it.
 */
public final class EffectNodes {
    public static final int NONE = -1;

    private static final int NAMES = 10;
    private static final int EFFECTS = 8;
    private static final int ALL_EFFECTS = 255;
    private static final int MOST_NODES = 200;
    private static final int MOST_CLAUSES = 40;
    private static final int MOST_FUNCTIONS = 60;
    private static final int MOST_SIZE = 400;
    private static final int MOST_LEVELS = 40;
    private static final int MOST_THINGS = 1000;
    private static final int MOST_DEPTH = 400;
    private static final int MOST_FUEL = 200;

    // The types that are no functions.
    private static final int INT = 0;
    private static final int BOOL = 1;
    private static final int UNIT = 2;
    private static final int FIRST_FUNCTION = 3;

    // The kinds of nodes; the first four are those of atom().
    private static final int NUMBER = 0;
    private static final int TRUTH = 1;
    private static final int NOTHING = 2;
    private static final int NAME = 3;
    private static final int LET = 4;
    private static final int REC = 5;
    private static final int CHOICE = 6;
    private static final int FN = 7;
    private static final int HANDLE = 8;
    private static final int TWO = 9;
    private static final int CALL = 10;
    private static final int PERFORM = 11;

    // The signs of TWO.
    private static final int PLUS = 0;
    private static final int MINUS = 1;
    private static final int TIMES = 2;
    private static final int LESS = 3;
    private static final int SAME = 4;

    // The faults of the checking.
    private static final int NO_FAULT = 0;
    private static final int UNKNOWN_NAME = 5;
    private static final int WRONG_TYPE = 6;
    private static final int BEYOND_ROW = 7;
    private static final int SECOND_CLAUSE = 8;
    private static final int TOO_MANY_TYPES = 9;

    // How a run stands.
    private static final int NOT_BEGUN = 0;
    private static final int RUNS = 1;
    private static final int DONE = 2;
    private static final int TWICE = 3;
    private static final int UNHANDLED = 4;
    private static final int FULL = 5;
    private static final int DEEP = 6;

    private final Types types;
    private final Nodes nodes;
    private final int[] given;
    private final int[] result;
    private final Checker checker;
    private final Code code;
    private final Machine machine;

    public EffectNodes() {
        types = new Types();
        nodes = new Nodes();
        given = new int[EFFECTS];
        result = new int[EFFECTS];
        checker = new Checker(nodes, types, given, result);
        code = new Code(nodes);
        machine = new Machine(code);
    }

    public void clear() {
        types.dropBack(FIRST_FUNCTION);
        nodes.dropAll();
        Arrays.fill(given, INT);
        Arrays.fill(result, INT);
        checker.forget();
        machine.unload();
    }

    public int function(int argument, int result, int row) throws IndexOutOfBoundsException, IllegalStateException {
        needType(argument);
        needType(result);
        needRow(row);
        int known = types.find(argument, result, row);
        if (known != NONE) {
            return known;
        }
        if (types.functions() >= MOST_FUNCTIONS) {
            throw new IllegalStateException("there are 60 function types");
        }
        return types.numberOf(argument, result, row);
    }

    public void effect(int e, int given, int result) throws IndexOutOfBoundsException {
        needEffect(e);
        needType(given);
        needType(result);
        this.given[e] = given;
        this.result[e] = result;
    }

    public int atom(int kind, int a) throws IndexOutOfBoundsException, IllegalStateException {
        if (kind < NUMBER || kind > NAME) {
            throw new IndexOutOfBoundsException("no such kind");
        }
        if (kind == TRUTH && a != 0 && a != 1) {
            throw new IndexOutOfBoundsException("no such truth");
        }
        if (kind == NAME) {
            needName(a);
        }
        needRoom();
        Node node = new Node(kind);
        node.value = kind == NOTHING ? 0 : a;
        return nodes.add(node);
    }

    public int let(int x, int a, int b) throws IndexOutOfBoundsException, IllegalStateException {
        needName(x);
        needNode(a);
        needNode(b);
        needRoom();
        Node node = new Node(LET);
        node.name = x;
        node.first = a;
        node.second = b;
        return nodes.add(node);
    }

    public int rec(int f, int x, int function, int a, int b) throws IndexOutOfBoundsException, IllegalStateException {
        needName(f);
        needName(x);
        if (!types.isFunction(function)) {
            throw new IndexOutOfBoundsException("no such function type");
        }
        needNode(a);
        needNode(b);
        needRoom();
        Node node = new Node(REC);
        node.own = f;
        node.name = x;
        node.value = function;
        node.first = a;
        node.second = b;
        return nodes.add(node);
    }

    public int choice(int a, int b, int c) throws IndexOutOfBoundsException, IllegalStateException {
        needNode(a);
        needNode(b);
        needNode(c);
        needRoom();
        Node node = new Node(CHOICE);
        node.first = a;
        node.second = b;
        node.third = c;
        return nodes.add(node);
    }

    public int fn(int x, int type, int a) throws IndexOutOfBoundsException, IllegalStateException {
        needName(x);
        needType(type);
        needNode(a);
        needRoom();
        Node node = new Node(FN);
        node.name = x;
        node.value = type;
        node.first = a;
        return nodes.add(node);
    }

    public int clause(int e, int x, int k, int a) throws IndexOutOfBoundsException, IllegalStateException {
        needEffect(e);
        needName(x);
        needName(k);
        needNode(a);
        if (!nodes.hasRoomForClause()) {
            throw new IllegalStateException("there are 40 clauses");
        }
        return nodes.makeReady(new Clause(e, x, k, a));
    }

    public int handle(int a, int row, int x, int b) throws IndexOutOfBoundsException, IllegalStateException {
        needNode(a);
        needRow(row);
        needName(x);
        needNode(b);
        needRoom();
        Node node = new Node(HANDLE);
        node.value = row;
        node.name = x;
        node.first = a;
        node.second = b;
        nodes.giveReadyClauses(node);
        return nodes.add(node);
    }

    public int two(int sign, int a, int b) throws IndexOutOfBoundsException, IllegalStateException {
        if (sign < PLUS || sign > SAME) {
            throw new IndexOutOfBoundsException("no such sign");
        }
        needNode(a);
        needNode(b);
        needRoom();
        Node node = new Node(TWO);
        node.value = sign;
        node.first = a;
        node.second = b;
        return nodes.add(node);
    }

    public int call(int a, int b) throws IndexOutOfBoundsException, IllegalStateException {
        needNode(a);
        needNode(b);
        needRoom();
        Node node = new Node(CALL);
        node.first = a;
        node.second = b;
        return nodes.add(node);
    }

    public int perform(int e, int a) throws IndexOutOfBoundsException, IllegalStateException {
        needEffect(e);
        needNode(a);
        needRoom();
        Node node = new Node(PERFORM);
        node.value = e;
        node.first = a;
        return nodes.add(node);
    }

    public int check(int node) throws IndexOutOfBoundsException, IllegalStateException, IllegalArgumentException {
        needNode(node);
        Node root = nodes.at(node);
        if (root.size > MOST_SIZE || root.levels > MOST_LEVELS) {
            throw new IllegalStateException("the program has too many nodes or is too deep");
        }
        machine.unload();
        int type = checker.examine(node);
        if (type == NONE) {
            throw new IllegalArgumentException("the program has a fault");
        }
        code.compile(node);
        machine.load(type < FIRST_FUNCTION);
        return type;
    }

    public int fault(int what) {
        switch (what) {
            case 0:
                return checker.faultKind;
            case 1:
                return checker.faultNode;
            case 2:
                return checker.effects;
            default:
                return NONE;
        }
    }

    public int type(int t, int what) {
        if (!types.isFunction(t)) {
            return NONE;
        }
        switch (what) {
            case 0:
                return types.argumentOf(t);
            case 1:
                return types.resultOf(t);
            case 2:
                return types.rowOf(t);
            default:
                return NONE;
        }
    }

    public boolean fits(int a, int b) {
        return types.isType(a) && types.isType(b) && types.suits(a, b);
    }

    public void start() throws IllegalStateException {
        if (!machine.loaded) {
            throw new IllegalStateException("there is no program");
        }
        machine.begin();
    }

    public int run(int n) throws IllegalStateException, IllegalArgumentException {
        if (machine.state == NOT_BEGUN) {
            throw new IllegalStateException("the program has not begun");
        }
        if (n < 0 || n > MOST_FUEL) {
            throw new IllegalArgumentException("fuel is 0 to 200");
        }
        return machine.goOnFor(n);
    }

    public int state(int what) {
        switch (what) {
            case 0:
                return machine.state;
            case 1:
                return machine.value;
            case 2:
                return machine.fuel;
            case 3:
                return machine.thingCount;
            case 4:
                return machine.depth;
            case 5:
                return machine.unhandled;
            default:
                return NONE;
        }
    }

    private void needType(int type) {
        if (!types.isType(type)) {
            throw new IndexOutOfBoundsException("no such type");
        }
    }

    private void needNode(int node) {
        if (!nodes.has(node)) {
            throw new IndexOutOfBoundsException("no such node");
        }
    }

    private void needRoom() {
        if (!nodes.hasRoom()) {
            throw new IllegalStateException("there are 200 nodes");
        }
    }

    private static void needRow(int row) {
        if (row < 0 || row > ALL_EFFECTS) {
            throw new IndexOutOfBoundsException("a row is 0 to 255");
        }
    }

    private static void needName(int name) {
        if (name < 0 || name >= NAMES) {
            throw new IndexOutOfBoundsException("no such name");
        }
    }

    private static void needEffect(int e) {
        if (e < 0 || e >= EFFECTS) {
            throw new IndexOutOfBoundsException("no such effect");
        }
    }

    private static boolean isWithin(int effects, int row) {
        return (effects & ~row) == 0;
    }

    /** A row of ints that grows where it is written; what was never written is 0. */
    private static final class Cells {
        private static final int MOST = 1 << 16;
        private int[] cells;

        Cells() {
            cells = new int[16];
        }

        int at(int i) {
            return i >= 0 && i < cells.length ? cells[i] : 0;
        }

        void put(int i, int v) {
            if (i < 0 || i >= MOST) {
                return;
            }
            if (i >= cells.length) {
                cells = Arrays.copyOf(cells, Math.max(i + 1, 2 * cells.length));
            }
            cells[i] = v;
        }
    }

    /**
     * The types by number. A function's parts have lower numbers than it has, so which types suit
     * which is settled once for each new one: a walk down the parts could double at each level.
     */
    private static final class Types {
        // Those told, and those that the biggest program can add before it is refused.
        private static final int MOST = 512;
        private static final int WORDS = MOST / 32;
        private final Cells arguments = new Cells();
        private final Cells results = new Cells();
        private final Cells rows = new Cells();
        private final Cells suiting = new Cells();
        private int count = FIRST_FUNCTION;

        boolean isType(int t) {
            return t >= 0 && t < count;
        }

        boolean isFunction(int t) {
            return t >= FIRST_FUNCTION && t < count;
        }

        int functions() {
            return count - FIRST_FUNCTION;
        }

        int argumentOf(int t) {
            return arguments.at(t);
        }

        int resultOf(int t) {
            return results.at(t);
        }

        int rowOf(int t) {
            return rows.at(t);
        }

        void dropBack(int size) {
            count = size;
        }

        int find(int argument, int result, int row) {
            for (int t = FIRST_FUNCTION; t < count; t++) {
                if (arguments.at(t) == argument && results.at(t) == result && rows.at(t) == row) {
                    return t;
                }
            }
            return NONE;
        }

        int numberOf(int argument, int result, int row) {
            int known = find(argument, result, row);
            if (known != NONE || count >= MOST) {
                return known;
            }
            int t = count;
            arguments.put(t, argument);
            results.put(t, result);
            rows.put(t, row);
            count++;
            for (int other = FIRST_FUNCTION; other < t; other++) {
                write(t, other, partsSuit(t, other));
                write(other, t, partsSuit(other, t));
            }
            return t;
        }

        boolean suits(int a, int b) {
            if (a == b) {
                return true;
            }
            if (a < FIRST_FUNCTION || b < FIRST_FUNCTION) {
                return false;
            }
            return (suiting.at(a * WORDS + b / 32) >>> (b % 32) & 1) == 1;
        }

        private boolean partsSuit(int a, int b) {
            return suits(arguments.at(b), arguments.at(a))
                    && suits(results.at(a), results.at(b))
                    && isWithin(rows.at(a), rows.at(b));
        }

        private void write(int a, int b, boolean holds) {
            int cell = a * WORDS + b / 32;
            int bit = 1 << (b % 32);
            suiting.put(cell, holds ? suiting.at(cell) | bit : suiting.at(cell) & ~bit);
        }
    }

    private static final class Node {
        final int kind;
        // The number, truth, name, sign, effect, type, function type, or row, as the kind has it.
        int value;
        // The name that is bound, and that of a rec's function.
        int name = NONE;
        int own = NONE;
        int first = NONE;
        int second = NONE;
        int third = NONE;
        int clausesFrom;
        int clausesTo;
        // Nodes and levels, all parts counted as often as they stand in it.
        int size = 1;
        int levels = 1;

        Node(int kind) {
            this.kind = kind;
        }
    }

    private static final class Clause {
        final int effect;
        final int argument;
        final int continuation;
        final int body;

        Clause(int effect, int argument, int continuation, int body) {
            this.effect = effect;
            this.argument = argument;
            this.continuation = continuation;
            this.body = body;
        }
    }

    /** The nodes and clauses that were told. */
    private static final class Nodes {
        // Sizes can double from node to node: they stop here, above what is ever asked of them.
        private static final int HUGE = 100000;
        private final Node[] nodes = new Node[MOST_NODES];
        private final Clause[] clauses = new Clause[MOST_CLAUSES];
        private final Node blank = new Node(NOTHING);
        private final Clause blankClause = new Clause(0, 0, 0, NONE);
        private int count;
        private int clauseCount;
        private int firstReady;

        void dropAll() {
            count = 0;
            clauseCount = 0;
            firstReady = 0;
        }

        boolean has(int node) {
            return node >= 0 && node < count;
        }

        boolean hasRoom() {
            return count < MOST_NODES;
        }

        boolean hasRoomForClause() {
            return clauseCount < MOST_CLAUSES;
        }

        Node at(int node) {
            Node found = has(node) ? nodes[node] : null;
            return found != null ? found : blank;
        }

        Clause clauseAt(int i) {
            Clause found = i >= 0 && i < clauseCount ? clauses[i] : null;
            return found != null ? found : blankClause;
        }

        int makeReady(Clause clause) {
            if (hasRoomForClause()) {
                clauses[clauseCount] = clause;
                clauseCount++;
            }
            return clauseCount - firstReady;
        }

        void giveReadyClauses(Node node) {
            node.clausesFrom = firstReady;
            node.clausesTo = clauseCount;
            firstReady = clauseCount;
        }

        int add(Node node) {
            if (!hasRoom()) {
                return NONE;
            }
            measure(node, node.first);
            measure(node, node.second);
            measure(node, node.third);
            for (int i = node.clausesFrom; i < node.clausesTo; i++) {
                measure(node, clauseAt(i).body);
            }
            nodes[count] = node;
            count++;
            return count - 1;
        }

        private void measure(Node node, int part) {
            if (part == NONE) {
                return;
            }
            node.size = Math.min(HUGE, node.size + at(part).size);
            node.levels = Math.max(node.levels, 1 + at(part).levels);
        }
    }

    /**
     * Checks a program from left to right until its first fault. What is seen of an EXPR is told as
     * one number, its type and its effects, or FAILED when a fault has been made.
     */
    private static final class Checker {
        private static final int FAILED = -1;
        private final Nodes nodes;
        private final Types types;
        private final int[] given;
        private final int[] result;
        private final int[] scope = new int[NAMES];
        private int faultKind;
        private int faultNode;
        private int effects;

        Checker(Nodes nodes, Types types, int[] given, int[] result) {
            this.nodes = nodes;
            this.types = types;
            this.given = given;
            this.result = result;
            faultNode = NONE;
        }

        void forget() {
            faultKind = NO_FAULT;
            faultNode = NONE;
            effects = 0;
        }

        /** The program's type, or NONE if it has a fault. */
        int examine(int node) {
            forget();
            Arrays.fill(scope, NONE);
            int told = types.functions();
            int seen = look(node, 1);
            // Types beyond the last one are kept until here, as any fault goes ahead of them.
            if (seen != FAILED && types.functions() > MOST_FUNCTIONS) {
                seen = blame(TOO_MANY_TYPES, NONE);
            }
            if (seen == FAILED) {
                types.dropBack(FIRST_FUNCTION + told);
                effects = NONE;
                return NONE;
            }
            effects = effectsIn(seen);
            return typeIn(seen);
        }

        private static int seenAs(int type, int effects) {
            return type * (ALL_EFFECTS + 1) + effects;
        }

        private static int typeIn(int seen) {
            return seen / (ALL_EFFECTS + 1);
        }

        private static int effectsIn(int seen) {
            return seen & ALL_EFFECTS;
        }

        private int blame(int fault, int node) {
            faultKind = fault;
            faultNode = node;
            return FAILED;
        }

        /** Gives a name a type and tells the one that it had, to be put back at its scope's end. */
        private int rename(int name, int type) {
            if (name < 0 || name >= NAMES) {
                return NONE;
            }
            int before = scope[name];
            scope[name] = type;
            return before;
        }

        private int look(int place, int level) {
            if (level > MOST_LEVELS) {
                return FAILED;
            }
            Node node = nodes.at(place);
            switch (node.kind) {
                case NUMBER:
                    return seenAs(INT, 0);
                case TRUTH:
                    return seenAs(BOOL, 0);
                case NAME:
                    return lookName(node, place);
                case LET:
                    return lookLet(node, level);
                case REC:
                    return lookRec(node, level);
                case CHOICE:
                    return lookChoice(node, level);
                case FN:
                    return lookFn(node, level);
                case HANDLE:
                    return lookHandle(node, level);
                case TWO:
                    return lookTwo(node, level);
                case CALL:
                    return lookCall(node, level);
                case PERFORM:
                    return lookPerform(node, level);
                default:
                    return seenAs(UNIT, 0);
            }
        }

        private int lookName(Node node, int place) {
            int name = node.value;
            if (name < 0 || name >= NAMES || scope[name] == NONE) {
                return blame(UNKNOWN_NAME, place);
            }
            return seenAs(scope[name], 0);
        }

        private int lookLet(Node node, int level) {
            int bound = look(node.first, level + 1);
            if (bound == FAILED) {
                return FAILED;
            }
            int before = rename(node.name, typeIn(bound));
            int body = look(node.second, level + 1);
            rename(node.name, before);
            if (body == FAILED) {
                return FAILED;
            }
            return seenAs(typeIn(body), effectsIn(bound) | effectsIn(body));
        }

        private int lookRec(Node node, int level) {
            int function = node.value;
            int ownBefore = rename(node.own, function);
            int before = rename(node.name, types.argumentOf(function));
            int body = look(node.first, level + 1);
            rename(node.name, before);
            int rest = FAILED;
            if (body != FAILED && bodyKeepsTo(function, node.first, body)) {
                // If both names are one, what was put back is the function already.
                rest = look(node.second, level + 1);
            }
            rename(node.own, ownBefore);
            return rest;
        }

        private boolean bodyKeepsTo(int function, int place, int body) {
            if (!types.suits(typeIn(body), types.resultOf(function))) {
                blame(WRONG_TYPE, place);
                return false;
            }
            if (!isWithin(effectsIn(body), types.rowOf(function))) {
                blame(BEYOND_ROW, place);
                return false;
            }
            return true;
        }

        private int lookChoice(Node node, int level) {
            int asked = look(node.first, level + 1);
            if (asked == FAILED) {
                return FAILED;
            }
            if (typeIn(asked) != BOOL) {
                return blame(WRONG_TYPE, node.first);
            }
            int yes = look(node.second, level + 1);
            int no = yes == FAILED ? FAILED : look(node.third, level + 1);
            if (no == FAILED) {
                return FAILED;
            }
            if (typeIn(no) != typeIn(yes)) {
                return blame(WRONG_TYPE, node.third);
            }
            return seenAs(typeIn(yes), effectsIn(asked) | effectsIn(yes) | effectsIn(no));
        }

        private int lookFn(Node node, int level) {
            int before = rename(node.name, node.value);
            int body = look(node.first, level + 1);
            rename(node.name, before);
            if (body == FAILED) {
                return FAILED;
            }
            return seenAs(types.numberOf(node.value, typeIn(body), effectsIn(body)), 0);
        }

        private int lookTwo(Node node, int level) {
            int left = look(node.first, level + 1);
            int right = left == FAILED ? FAILED : look(node.second, level + 1);
            if (right == FAILED) {
                return FAILED;
            }
            // The rule speaks of both, so it is looked at when both have ended.
            if (typeIn(left) != INT) {
                return blame(WRONG_TYPE, node.first);
            }
            if (typeIn(right) != INT) {
                return blame(WRONG_TYPE, node.second);
            }
            return seenAs(node.value <= TIMES ? INT : BOOL, effectsIn(left) | effectsIn(right));
        }

        private int lookCall(Node node, int level) {
            int called = look(node.first, level + 1);
            if (called == FAILED) {
                return FAILED;
            }
            int function = typeIn(called);
            if (!types.isFunction(function)) {
                return blame(WRONG_TYPE, node.first);
            }
            int argument = look(node.second, level + 1);
            if (argument == FAILED) {
                return FAILED;
            }
            if (!types.suits(typeIn(argument), types.argumentOf(function))) {
                return blame(WRONG_TYPE, node.second);
            }
            int all = effectsIn(called) | effectsIn(argument) | types.rowOf(function);
            return seenAs(types.resultOf(function), all);
        }

        private int lookPerform(Node node, int level) {
            int argument = look(node.first, level + 1);
            int e = node.value;
            if (argument == FAILED || e < 0 || e >= EFFECTS) {
                return FAILED;
            }
            if (!types.suits(typeIn(argument), given[e])) {
                return blame(WRONG_TYPE, node.first);
            }
            return seenAs(result[e], effectsIn(argument) | 1 << e);
        }

        private int lookHandle(Node node, int level) {
            int body = look(node.first, level + 1);
            if (body == FAILED) {
                return FAILED;
            }
            int before = rename(node.name, typeIn(body));
            int end = look(node.second, level + 1);
            rename(node.name, before);
            if (end == FAILED) {
                return FAILED;
            }
            int row = node.value;
            int answer = typeIn(end);
            if (!isWithin(effectsIn(end), row)) {
                return blame(BEYOND_ROW, node.second);
            }
            int handled = 0;
            for (int i = node.clausesFrom; i < node.clausesTo; i++) {
                Clause clause = nodes.clauseAt(i);
                int bit = 1 << clause.effect;
                if ((handled & bit) != 0) {
                    return blame(SECOND_CLAUSE, clause.body);
                }
                handled |= bit;
                if (!clauseKeepsTo(clause, answer, row, level)) {
                    return FAILED;
                }
            }
            if (!isWithin(effectsIn(body) & ~handled, row)) {
                return blame(BEYOND_ROW, node.first);
            }
            return seenAs(answer, row);
        }

        private boolean clauseKeepsTo(Clause clause, int answer, int row, int level) {
            int e = clause.effect;
            if (e < 0 || e >= EFFECTS) {
                return false;
            }
            int continuation = types.numberOf(result[e], answer, row);
            int argumentBefore = rename(clause.argument, given[e]);
            int before = rename(clause.continuation, continuation);
            int seen = look(clause.body, level + 1);
            rename(clause.continuation, before);
            rename(clause.argument, argumentBefore);
            if (seen == FAILED) {
                return false;
            }
            if (!types.suits(typeIn(seen), answer)) {
                blame(WRONG_TYPE, clause.body);
                return false;
            }
            if (!isWithin(effectsIn(seen), row)) {
                blame(BEYOND_ROW, clause.body);
                return false;
            }
            return true;
        }
    }

    /**
     * The compiled program: rows of an operation and what it needs. Bodies of functions, clauses and
     * returns stand inside the code of their node, each with an END, and are jumped over.
     */
    private static final class Code {
        // END is 0, so that a row that was never written ends what is worked.
        static final int END = 0;
        static final int PUSH = 1;
        static final int LOAD = 2;
        static final int BIND = 3;
        static final int UNBIND = 4;
        static final int JUMP = 5;
        static final int JUMP_IF_FALSE = 6;
        static final int COMBINE = 7;
        static final int CLOSE = 8;
        static final int INSTALL = 9;
        static final int CASE = 10;
        static final int END_BODY = 11;
        static final int APPLY = 12;
        static final int RAISE = 13;

        private static final int WIDTH = 5;
        private final Nodes nodes;
        private final Cells rows = new Cells();
        private int length;

        Code(Nodes nodes) {
            this.nodes = nodes;
        }

        int operation(int row) {
            return rows.at(row * WIDTH);
        }

        /** What an operation needs: field 1 to 4 of its row. */
        int field(int row, int i) {
            return rows.at(row * WIDTH + i);
        }

        void compile(int node) {
            length = 0;
            write(node, 1);
            add(END, 0);
        }

        /** The row of a handler's CASE for an effect, or NONE. */
        int caseOf(Thing handler, int effect) {
            if (handler == null) {
                return NONE;
            }
            int install = handler.row;
            int cases = field(install, 4);
            for (int i = 1; i <= cases && i <= EFFECTS; i++) {
                if (field(install + i, 1) == effect) {
                    return install + i;
                }
            }
            return NONE;
        }

        private int add(int operation, int field) {
            int row = length;
            rows.put(row * WIDTH, operation);
            rows.put(row * WIDTH + 1, field);
            length++;
            return row;
        }

        private void fill(int row, int i, int value) {
            rows.put(row * WIDTH + i, value);
        }

        private void write(int place, int level) {
            if (level > MOST_LEVELS) {
                return;
            }
            Node node = nodes.at(place);
            switch (node.kind) {
                case NAME:
                    add(LOAD, node.value);
                    break;
                case LET:
                    write(node.first, level + 1);
                    writeScope(node.name, node.second, level);
                    break;
                case REC:
                    writeFunction(node, level);
                    writeScope(node.own, node.second, level);
                    break;
                case FN:
                    writeFunction(node, level);
                    break;
                case CHOICE:
                    writeChoice(node, level);
                    break;
                case HANDLE:
                    writeHandle(node, level);
                    break;
                case TWO:
                    write(node.first, level + 1);
                    write(node.second, level + 1);
                    add(COMBINE, node.value);
                    break;
                case CALL:
                    write(node.first, level + 1);
                    write(node.second, level + 1);
                    add(APPLY, 0);
                    break;
                case PERFORM:
                    write(node.first, level + 1);
                    add(RAISE, node.value);
                    break;
                default:
                    add(PUSH, node.value);
                    break;
            }
        }

        private void writeScope(int name, int body, int level) {
            add(BIND, name);
            write(body, level + 1);
            add(UNBIND, name);
        }

        private void writeBody(int body, int level) {
            write(body, level + 1);
            add(END, 0);
        }

        /** CLOSE: the argument's name, the function's own, and the row behind its body. */
        private void writeFunction(Node node, int level) {
            int close = add(CLOSE, node.name);
            fill(close, 2, node.own);
            writeBody(node.first, level);
            fill(close, 3, length);
        }

        private void writeChoice(Node node, int level) {
            write(node.first, level + 1);
            int toNo = add(JUMP_IF_FALSE, 0);
            write(node.second, level + 1);
            int toEnd = add(JUMP, 0);
            fill(toNo, 1, length);
            write(node.third, level + 1);
            fill(toEnd, 1, length);
        }

        /**
         * INSTALL: the row behind all, return's row, return's name, how many CASEs follow; each CASE:
         * its effect, its row, its two names. The body follows these.
         */
        private void writeHandle(Node node, int level) {
            int install = add(INSTALL, 0);
            fill(install, 3, node.name);
            fill(install, 4, node.clausesTo - node.clausesFrom);
            for (int i = node.clausesFrom; i < node.clausesTo; i++) {
                Clause clause = nodes.clauseAt(i);
                int row = add(CASE, clause.effect);
                fill(row, 3, clause.argument);
                fill(row, 4, clause.continuation);
            }
            write(node.first, level + 1);
            add(END_BODY, 0);
            fill(install, 2, length);
            writeBody(node.second, level);
            for (int i = node.clausesFrom; i < node.clausesTo; i++) {
                fill(install + 1 + i - node.clausesFrom, 2, length);
                writeBody(nodes.clauseAt(i).body, level);
            }
            fill(install, 1, length);
        }
    }

    /** What is worked as one unit, the program, a call, a handler's body, a clause, or a return. */
    private static final class Frame {
        // The values of the names, and behind them those that wait for their operation.
        private final int[] slots = new int[NAMES + MOST_LEVELS];
        private int height = NAMES;
        private int row;
        private Thing handler;
        private Frame below;

        void open(Thing home, int row) {
            if (home != null) {
                System.arraycopy(home.names, 0, slots, 0, NAMES);
            }
            this.row = row;
            height = NAMES;
            handler = null;
        }

        void keepNames(Thing home) {
            System.arraycopy(slots, 0, home.names, 0, NAMES);
        }

        int valueOf(int name) {
            return name >= 0 && name < NAMES ? slots[name] : 0;
        }

        void give(int name, int value) {
            if (name >= 0 && name < NAMES) {
                slots[name] = value;
            }
        }

        void push(int value) {
            if (height < slots.length) {
                slots[height] = value;
                height++;
            }
        }

        int pop() {
            if (height <= NAMES) {
                return 0;
            }
            height--;
            return slots[height];
        }
    }

    /** A function, a handler, or a continuation: the names where it was made, or the frames it holds. */
    private static final class Thing {
        private final int[] names = new int[NAMES];
        private int row;
        private boolean isContinuation;
        private boolean isGone;
        private Frame upper;
        private Frame lower;
        private int brings;

        void make(int row) {
            this.row = row;
            isContinuation = false;
            upper = null;
            lower = null;
        }

        void hold(Frame upper, Frame lower, int brings) {
            isContinuation = true;
            isGone = false;
            this.upper = upper;
            this.lower = lower;
            this.brings = brings;
        }

        void give(int name, int value) {
            if (name >= 0 && name < NAMES) {
                names[name] = value;
            }
        }
    }

    /**
     * Frames and things, made once and used again. DEPTH bounds the frames that are worked, and each
     * one that a dropped continuation keeps has taken a THING, so there are never many.
     */
    private static final class Store {
        private final ArrayList<Frame> frames = new ArrayList<>();
        private final ArrayList<Thing> things = new ArrayList<>();
        private int framesUsed;
        private int thingsUsed;
        private Frame free;

        void reset() {
            framesUsed = 0;
            thingsUsed = 0;
            free = null;
        }

        Frame takeFrame() {
            Frame frame = free;
            if (frame != null) {
                free = frame.below;
                return frame;
            }
            if (framesUsed >= frames.size()) {
                frames.add(new Frame());
            }
            frame = frames.get(framesUsed);
            framesUsed++;
            return frame;
        }

        void giveBack(Frame frame) {
            frame.below = free;
            frame.handler = null;
            free = frame;
        }

        /** The number of a new thing, which is the value of the function that it is. */
        int takeThing() {
            if (thingsUsed >= things.size()) {
                things.add(new Thing());
            }
            thingsUsed++;
            return thingsUsed - 1;
        }

        Thing thingAt(int i) {
            return i >= 0 && i < thingsUsed && i < things.size() ? things.get(i) : null;
        }
    }

    /** Works the compiled program. */
    private static final class Machine {
        // Above what all frames that fuel, DEPTH and THINGS allow could work, each row of theirs once.
        private static final int MOST_STEPS = 4000000;
        private final Code code;
        private final Store store = new Store();
        private boolean loaded;
        private boolean showsValue;
        private int state;
        private int value;
        private int fuel;
        private int thingCount;
        private int depth;
        private int unhandled;
        private Frame top;
        private int allowed;
        private int taken;
        private boolean waits;

        Machine(Code code) {
            this.code = code;
            unhandled = NONE;
        }

        void unload() {
            loaded = false;
            reset();
        }

        void load(boolean showsValue) {
            loaded = true;
            this.showsValue = showsValue;
            reset();
        }

        void begin() {
            reset();
            store.reset();
            top = store.takeFrame();
            top.open(null, 0);
            top.below = null;
            state = RUNS;
        }

        int goOnFor(int n) {
            allowed = n;
            taken = 0;
            waits = false;
            for (int step = 0; step < MOST_STEPS && state == RUNS && !waits && top != null; step++) {
                work(top, top.row);
            }
            return taken;
        }

        private void reset() {
            state = NOT_BEGUN;
            value = 0;
            fuel = 0;
            thingCount = 0;
            depth = 0;
            unhandled = NONE;
            top = null;
        }

        private void work(Frame frame, int row) {
            int field = code.field(row, 1);
            // The operations that go elsewhere set the row anew; those that wait take it back.
            frame.row = row + 1;
            switch (code.operation(row)) {
                case Code.PUSH:
                    frame.push(field);
                    break;
                case Code.LOAD:
                    frame.push(frame.valueOf(field));
                    break;
                case Code.BIND:
                    bind(frame, field);
                    break;
                case Code.UNBIND:
                    unbind(frame, field);
                    break;
                case Code.JUMP:
                    frame.row = field;
                    break;
                case Code.JUMP_IF_FALSE:
                    frame.row = frame.pop() == 0 ? field : row + 1;
                    break;
                case Code.COMBINE:
                    combine(frame, field);
                    break;
                case Code.CLOSE:
                    close(frame, row);
                    break;
                case Code.INSTALL:
                    install(frame, row);
                    break;
                case Code.END_BODY:
                    endBody(frame);
                    break;
                case Code.APPLY:
                    apply(frame, row);
                    break;
                case Code.RAISE:
                    raise(frame, row, field);
                    break;
                default:
                    end(frame);
                    break;
            }
        }

        /** The value that the name had waits among the operands until its scope ends. */
        private void bind(Frame frame, int name) {
            int bound = frame.pop();
            frame.push(frame.valueOf(name));
            frame.give(name, bound);
        }

        private void unbind(Frame frame, int name) {
            int answer = frame.pop();
            frame.give(name, frame.pop());
            frame.push(answer);
        }

        private void combine(Frame frame, int sign) {
            int right = frame.pop();
            int left = frame.pop();
            switch (sign) {
                case PLUS:
                    frame.push(left + right);
                    break;
                case MINUS:
                    frame.push(left - right);
                    break;
                case TIMES:
                    frame.push(left * right);
                    break;
                case LESS:
                    frame.push(left < right ? 1 : 0);
                    break;
                default:
                    frame.push(left == right ? 1 : 0);
                    break;
            }
        }

        private boolean isFull(int more) {
            if (thingCount + more <= MOST_THINGS) {
                return false;
            }
            state = FULL;
            return true;
        }

        private boolean isDeep(int more) {
            if (depth + more <= MOST_DEPTH) {
                return false;
            }
            state = DEEP;
            return true;
        }

        /** Takes one of the fuel, or leaves the program ahead of this row. */
        private boolean takesFuel(Frame frame, int row) {
            if (taken >= allowed) {
                waits = true;
                frame.row = row;
                return false;
            }
            taken++;
            fuel++;
            return true;
        }

        private void close(Frame frame, int row) {
            if (isFull(1)) {
                return;
            }
            thingCount++;
            int number = store.takeThing();
            Thing function = store.thingAt(number);
            if (function == null) {
                return;
            }
            function.make(row);
            frame.keepNames(function);
            function.give(code.field(row, 2), number);
            frame.push(number);
            frame.row = code.field(row, 3);
        }

        private void install(Frame frame, int row) {
            if (isFull(1) || isDeep(1)) {
                return;
            }
            thingCount++;
            Thing handler = store.thingAt(store.takeThing());
            if (handler == null) {
                return;
            }
            handler.make(row);
            frame.keepNames(handler);
            frame.row = code.field(row, 1);
            enter(frame, handler, row + 1 + code.field(row, 4));
            top.handler = handler;
        }

        /** A new frame stands on this one, with the names of its home. */
        private void enter(Frame below, Thing home, int row) {
            Frame frame = store.takeFrame();
            frame.open(home, row);
            frame.below = below;
            top = frame;
            depth++;
        }

        /** The handler is left, and return's EXPR takes its frame. */
        private void endBody(Frame frame) {
            Thing handler = frame.handler;
            if (handler == null) {
                return;
            }
            int answer = frame.pop();
            frame.open(handler, code.field(handler.row, 2));
            frame.give(code.field(handler.row, 3), answer);
        }

        private void apply(Frame frame, int row) {
            if (!takesFuel(frame, row)) {
                return;
            }
            int argument = frame.pop();
            Thing function = store.thingAt(frame.pop());
            if (function == null) {
                return;
            }
            if (function.isContinuation) {
                resume(frame, function, argument);
            } else if (!isDeep(1)) {
                enter(frame, function, function.row + 1);
                top.give(code.field(function.row, 1), argument);
            }
        }

        private void resume(Frame frame, Thing continuation, int argument) {
            if (continuation.isGone) {
                state = TWICE;
                return;
            }
            if (isDeep(continuation.brings) || continuation.lower == null || continuation.upper == null) {
                return;
            }
            continuation.isGone = true;
            depth += continuation.brings;
            continuation.lower.below = frame;
            top = continuation.upper;
            top.push(argument);
        }

        private void raise(Frame frame, int row, int effect) {
            if (!takesFuel(frame, row)) {
                return;
            }
            int argument = frame.pop();
            Frame holder = frame;
            int clause = code.caseOf(holder.handler, effect);
            int brings = 1;
            while (clause == NONE && holder.below != null && brings <= MOST_DEPTH) {
                holder = holder.below;
                clause = code.caseOf(holder.handler, effect);
                brings++;
            }
            if (clause == NONE) {
                unhandled = effect;
                state = UNHANDLED;
            } else if (!isFull(1 + brings)) {
                Frame below = holder.below;
                int continuation = holdFrames(holder, brings);
                enter(below, holder.handler, code.field(clause, 2));
                top.give(code.field(clause, 3), argument);
                top.give(code.field(clause, 4), continuation);
            }
        }

        /** The frames down to the handler's become a continuation; its number. */
        private int holdFrames(Frame holder, int brings) {
            thingCount += 1 + brings;
            depth -= brings;
            int number = store.takeThing();
            Thing continuation = store.thingAt(number);
            if (continuation != null) {
                continuation.hold(top, holder, brings);
            }
            holder.below = null;
            return number;
        }

        private void end(Frame frame) {
            int answer = frame.pop();
            Frame below = frame.below;
            if (below == null) {
                state = DONE;
                value = showsValue ? answer : 0;
                return;
            }
            below.push(answer);
            top = below;
            depth--;
            store.giveBack(frame);
        }
    }
}
