/** Promises 1 to 5: one test for each sentence that names a boundary case. */
public final class PuttingEdgesTest {
    private static final int IAE = Desk.IAE;
    private static final int ISE = Desk.ISE;
    private static final int IOOBE = Desk.IOOBE;
    private static final int NONE = -1;
    private static final int MIN = Integer.MIN_VALUE;
    private static final int MAX = Integer.MAX_VALUE;
    private static final int[] NO_SLOTS = {-1, 8, MIN, MAX};

    // Promise 1: a new object

    private static void noOperations() {
        Desk x = new Desk();
        Check.due("count(0)", 0, x.count(0));
        x.begin(0, 6);
        Check.due("put of operation 0", IAE, x.put(0, 1, 0));
        Check.due("the first operation", 0, x.operation(0, 0, 0));
    }

    private static void noHoles() {
        Desk x = new Desk();
        Check.counts(x, 1, 0, 0, 0);
        x.begin(0, 6);
        Check.due("put of hole 0", IAE, x.put(0, 2, 0));
        Check.due("size(0)", IAE, x.size(0));
        Check.due("uses(0)", IAE, x.uses(0));
        Check.due("empty()", 0, x.empty());
        Check.due("the first hole", 0, x.hole(4));
    }

    private static void noTerms() {
        Desk x = Desk.with(0);
        for (int s = 0; s < 8; s++) {
            Check.due("put into slot " + s, ISE, x.put(s, 1, 0));
            Check.due("read of slot " + s, ISE, x.read(s));
            Check.due("unify of slot " + s, ISE, x.unify(s, s));
            Check.due("isSame of slot " + s, ISE, x.isSame(s, s));
        }
        Check.due("item(0)", IOOBE, x.item(0));
        Check.counts(x, 4, 0, 0, 0, 0);
    }

    private static void ofItsOwn() {
        Desk other = Desk.with(1, 1);
        other.term(0, 1, "h0 v0");
        other.term(1, 1, "h1 v0");
        other.unify(0, 1);
        other.read(0);
        Desk x = new Desk();
        Check.counts(x, 0, 0, 0, 0, 0, 0, 0, 0, 0);
        Check.due("read(0)", ISE, x.read(0));
        Check.due("item(0)", IOOBE, x.item(0));
        x.operation(-1, -1, -1);
        x.hole(3);
        Check.due("uses(0)", 7, x.uses(0));
        Check.counts(other, 0, 8, 2, 1, 2, 2, 1, 1, 0);
    }

    private static void none() {
        Check.due("NONE", -1, HoleFiller.NONE);
    }

    // Promise 2: operation

    private static void bindsNone() {
        Desk x = new Desk();
        Check.due("operation(0, 0, 0)", 0, x.operation(0, 0, 0));
        x.operation(-1, -1, -1);
        x.begin(0, 0);
        Check.due("three arguments", 3, x.put(0, 1, 0));
        for (int left = 2; left >= 0; left--) {
            Check.due("variable 0 where none is bound", IAE, x.put(0, 0, 0));
            Check.due("the next argument", left, x.put(0, 1, 1));
        }
    }

    private static void bindsTwo() {
        Desk x = new Desk();
        Check.due("operation(2, 2, 2)", 0, x.operation(2, 2, 2));
        x.begin(0, 0);
        Check.due("three arguments", 3, x.put(0, 1, 0));
        for (int left = 2; left >= 0; left--) {
            Check.due("variable 2 where two are bound", IAE, x.put(0, 0, 2));
            Check.due("variable 1 where two are bound", left, x.put(0, 0, 1));
        }
    }

    private static void bindsOfItsOwn() {
        Desk x = new Desk();
        x.operation(1, 0, 2);
        x.operation(2, 1, -1);
        x.begin(0, 0);
        x.put(0, 1, 0);
        Check.due("variable 1 where one is bound", IAE, x.put(0, 0, 1));
        Check.due("variable 0 where one is bound", 2, x.put(0, 0, 0));
        Check.due("variable 0 where none is bound", IAE, x.put(0, 0, 0));
        Check.due("the other operation", 3, x.put(0, 1, 1));
        Check.due("variable 2 where two are bound", IAE, x.put(0, 0, 2));
        Check.due("variable 1 where two are bound", 2, x.put(0, 0, 1));
        Check.due("variable 1 where one is bound", IAE, x.put(0, 0, 1));
        Check.due("variable 0 where one is bound", 1, x.put(0, 0, 0));
        Check.due("variable 2 where two are bound", IAE, x.put(0, 0, 2));
        Check.due("variable 1 where two are bound", 0, x.put(0, 0, 1));
    }

    private static void bindsWrongly() {
        Desk x = new Desk();
        for (int bad : new int[] {-2, 3, MIN, MAX}) {
            Check.due("first " + bad, IAE, x.operation(bad, -1, -1));
            Check.due("first of three " + bad, IAE, x.operation(bad, 0, 0));
            Check.due("second " + bad, IAE, x.operation(0, bad, -1));
            Check.due("second of three " + bad, IAE, x.operation(0, bad, 0));
            Check.due("third " + bad, IAE, x.operation(0, 0, bad));
        }
        Check.due("count(0) behind what was refused", 0, x.count(0));
        Check.due("the next operation", 0, x.operation(0, 0, 0));
    }

    private static void noneAndThoseBehind() {
        Desk x = new Desk();
        int[][] bad = {{-1, 0, -1}, {-1, 2, -1}, {-1, -1, 0}, {-1, -1, 2}, {-1, 0, 0}, {0, -1, 0}, {2, -1, 2}};
        for (int[] b : bad) Check.due("one behind none", IAE, x.operation(b[0], b[1], b[2]));
        Check.due("count(0) behind what was refused", 0, x.count(0));
        Check.due("no argument", 0, x.operation(-1, -1, -1));
        Check.due("one argument", 1, x.operation(0, -1, -1));
        Check.due("two arguments", 2, x.operation(0, 0, -1));
        Check.due("three arguments", 3, x.operation(0, 0, 0));
        for (int f = 0; f < 4; f++) {
            x.begin(f, 0);
            Check.due("due behind operation " + f, f, x.put(f, 1, f));
        }
    }

    private static void sixteenOperations() {
        Desk x = new Desk();
        for (int f = 0; f < 16; f++) {
            Check.due("operation " + f, f, x.operation(f % 3, f % 2, f % 2 == 0 ? -1 : 1));
            Check.due("count(0)", f + 1, x.count(0));
        }
        Check.due("operation 16", NONE, x.operation(0, 0, 0));
        Check.due("operation 16 again", NONE, x.operation(-1, -1, -1));
        Check.due("count(0)", 16, x.count(0));
        x.begin(0, 0);
        Check.due("put of operation 16", IAE, x.put(0, 1, 16));
        Check.due("put of operation 15", 3, x.put(0, 1, 15));
        x.begin(0, 0);
        Check.due("put of operation 0", 2, x.put(0, 1, 0));
        Check.due("its first argument binds none", IAE, x.put(0, 0, 0));
    }

    // Promise 3: hole

    private static void zeroToFourParameters() {
        Desk x = new Desk();
        for (int n = 0; n <= 4; n++) Check.due("hole(" + n + ")", n, x.hole(n));
        for (int n = 0; n <= 4; n++) {
            x.begin(n, 6);
            Check.due("due behind a hole of " + n, n, x.put(n, 2, n));
            for (int v = 0; v < n; v++) Check.due("due behind its variable", n - v - 1, x.put(n, 0, v));
            Check.due("none is due", ISE, x.put(n, 0, 5));
        }
    }

    private static void parametersWrong() {
        Desk x = new Desk();
        for (int n : new int[] {-1, 5, MIN, MAX}) Check.due("hole(" + n + ")", IAE, x.hole(n));
        Check.due("count(1) behind what was refused", 0, x.count(1));
        Check.due("the next hole", 0, x.hole(1));
    }

    private static void twentyFourHoles() {
        Desk x = new Desk();
        for (int h = 0; h < 24; h++) {
            Check.due("hole " + h, h, x.hole(h % 5));
            Check.due("count(1)", h + 1, x.count(1));
        }
        Check.due("hole 24", NONE, x.hole(0));
        Check.due("hole 24 again", NONE, x.hole(4));
        Check.due("count(1)", 24, x.count(1));
        Check.due("size(24)", IAE, x.size(24));
        Check.due("size(23)", 1, x.size(23));
        x.begin(0, 6);
        Check.due("put of hole 24", IAE, x.put(0, 2, 24));
        Check.due("put of hole 23", 3, x.put(0, 2, 23));
        for (int h = 0; h < 24; h++) Check.due("uses(" + h + ")", (1 << h % 5) - 1, x.uses(h));
    }

    private static void newHolesAreNotTold() {
        Desk x = Desk.with(2, 2);
        x.term(0, 3, "h0 v0 v1");
        x.term(1, 3, "h0 v0 v2");
        x.term(2, 3, "h1 v0 v1");
        Check.due("unify", 0, x.unify(0, 1));
        Check.due("unify", 0, x.unify(0, 2));
        Check.counts(x, 1, 2, 2, 3);
        for (int h = 2; h < 24; h++) Check.due("hole " + h, h, x.hole(1));
        Check.due("hole 24", NONE, x.hole(1));
        Check.counts(x, 1, 24, 2, 3);
        Check.due("uses of a hole that was told behind new ones", 1, x.uses(2));
        Check.due("uses(1)", 1, x.uses(1));
        x.empty();
        Check.due("hole 24 when the new ones are gone", NONE, x.hole(1));
    }

    // Promise 4: begin

    private static void slotsOfBegin() {
        Desk x = Desk.with();
        for (int s = 0; s < 8; s++) Check.due("begin(" + s + ", 0)", 1, x.begin(s, 0));
        for (int s : NO_SLOTS) Check.due("begin(" + s + ", 0)", IAE, x.begin(s, 0));
        for (int s : NO_SLOTS) Check.due("begin(" + s + ", 7)", IAE, x.begin(s, 7));
    }

    private static void depthsOfBegin() {
        Desk x = Desk.with();
        for (int d = 0; d <= 6; d++) {
            Check.due("begin(0, " + d + ")", 1, x.begin(0, d));
            Check.due("variable " + d + " at depth " + d, IAE, x.put(0, 0, d));
            if (d > 0) Check.due("variable " + (d - 1) + " at depth " + d, 0, x.put(0, 0, d - 1));
        }
        for (int d : new int[] {-1, 7, MIN, MAX}) Check.due("begin(0, " + d + ")", IAE, x.begin(0, d));
    }

    private static void beginIsRefused() {
        Desk x = Desk.with();
        x.term(0, 2, "o1 v1 v0");
        x.begin(1, 2);
        x.put(1, "o1");
        for (int d : new int[] {-1, 7}) {
            Check.due("begin(0, " + d + ")", IAE, x.begin(0, d));
            Check.due("begin(1, " + d + ")", IAE, x.begin(1, d));
        }
        for (int s : NO_SLOTS) x.begin(s, 0);
        Check.reads(x, 0, "o1 v1 v0");
        Check.due("the depth stays", IAE, x.put(1, 0, 2));
        Check.due("what is due stays", 1, x.put(1, 0, 1));
        Check.due("what is due stays", 0, x.put(1, 0, 0));
        Check.due("isSame", 1, x.isSame(0, 1));
    }

    private static void beginsAnew() {
        Desk x = Desk.with(3);
        x.term(0, 3, "v2");
        Check.due("begin of a whole term", 1, x.begin(0, 1));
        Check.due("it is not whole", ISE, x.read(0));
        Check.due("its depth is the new one", IAE, x.put(0, 0, 1));
        Check.due("put", 2, x.putAll(0, "o1"));
        Check.due("begin in the midst", 1, x.begin(0, 3));
        Check.due("put of a hole", 3, x.put(0, "h0"));
        Check.due("put of its variables", 1, x.putAll(0, "v0 v1"));
        Check.due("begin behind a hole", 1, x.begin(0, 2));
        Check.due("an operation may stand there", 1, x.putAll(0, "o2"));
        Check.due("a variable", 0, x.put(0, "v2"));
        Check.reads(x, 0, "o2 v2");
    }

    private static void beginsAnewWhenFull() {
        Desk x = Desk.with();
        x.begin(0, 6);
        x.putAll(0, "o3 o3 o3");
        Check.due("a 13th variable", NONE, x.put(0, "o2"));
        x.begin(0, 0);
        for (int i = 0; i < 30; i++) x.put(0, "o1");
        Check.due("item 31", NONE, x.put(0, "o0"));
        Check.due("begin", 1, x.begin(0, 0));
        for (int i = 0; i < 29; i++) x.put(0, "o1");
        Check.due("item 30", 29, x.put(0, "o0"));
        Check.due("item 31", NONE, x.put(0, "o0"));
        Check.due("begin", 1, x.begin(0, 6));
        Check.due("12 variables", 1, x.putAll(0, "o3 o3 o3"));
    }

    private static void slotsHaveATermEach() {
        Desk x = Desk.with();
        String[] terms = {"v0", "v1", "o0", "o2 v0", "o1 v0 v1", "o3 v0", "o4 v0 v1 v2", "o2 o2 v1"};
        for (int s = 0; s < 8; s++) x.begin(s, s == 7 ? 3 : 6 - s / 2);
        for (int s = 7; s >= 0; s--) Check.due("the last put into slot " + s, 0, x.putAll(s, terms[s]));
        for (int s = 0; s < 8; s++) Check.reads(x, s, terms[s]);
        x.begin(3, 1);
        for (int s = 0; s < 8; s++) {
            if (s != 3) Check.reads(x, s, terms[s]);
        }
        Check.due("the one that was begun", ISE, x.read(3));
    }

    // Promise 5: put

    private static void slotsOfPut() {
        Desk x = Desk.with(0);
        for (int s : NO_SLOTS) Check.due("put(" + s + ", 1, 0)", IAE, x.put(s, 1, 0));
        for (int s = 0; s < 8; s++) x.begin(s, 1);
        for (int s : NO_SLOTS) Check.due("put(" + s + ", 1, 0)", IAE, x.put(s, 1, 0));
        for (int s = 0; s < 8; s++) Check.due("put(" + s + ", 1, 0)", 0, x.put(s, 1, 0));
        for (int s : NO_SLOTS) Check.due("put(" + s + ", 1, 0)", IAE, x.put(s, 1, 0));
    }

    private static void noneIsDue() {
        Desk x = Desk.with(1);
        Check.due("put into what was never begun", ISE, x.put(0, 1, 0));
        x.term(0, 1, "h0 v0");
        Check.due("put behind a whole term", ISE, x.put(0, 0, 0));
        Check.due("put behind a whole term", ISE, x.put(0, 1, 0));
        Check.due("put behind a whole term", ISE, x.put(0, 2, 0));
        Check.reads(x, 0, "h0 v0");
    }

    private static void noneIsDueComesFirst() {
        Desk x = Desk.with(1);
        x.term(0, 1, "v0");
        for (int s = 0; s < 2; s++) {
            int[][] bad = {{-1, 0}, {3, 0}, {MAX, 0}, {0, -1}, {0, 1}, {1, -1}, {1, 8}, {2, -1}, {2, 1}};
            for (int[] b : bad) Check.due("put of what is not there", ISE, x.put(s, b[0], b[1]));
        }
        Check.reads(x, 0, "v0");
    }

    private static void noneIsDueWhenItIsFull() {
        Desk x = Desk.with();
        x.begin(0, 0);
        x.put(0, "o2");
        for (int i = 0; i < 14; i++) x.putAll(0, "o1 o0");
        Check.due("item 30 makes it whole", 0, x.put(0, "o0"));
        Check.due("item 31 when none is due", ISE, x.put(0, "o0"));
    }

    private static void sorts() {
        Desk x = Desk.with(1);
        x.begin(0, 1);
        x.put(0, "o1");
        for (int sort : new int[] {-1, 3, 4, 5, MIN, MAX}) Check.due("sort " + sort, IAE, x.put(0, sort, 0));
        Check.due("sort 2 and what is due", 2, x.put(0, 2, 0));
        for (int sort : new int[] {-1, 3, 4, 5, MIN, MAX}) Check.due("sort " + sort, IAE, x.put(0, sort, 0));
        Check.due("sort 0 and what is due", 1, x.put(0, 0, 0));
        Check.due("sort 0 and what is due", 0, x.put(0, 0, 0));
        Check.reads(x, 0, "o1 h0 v0 v0");
    }

    private static void variablesAtAPlace() {
        Desk x = Desk.with();
        x.begin(0, 2);
        Check.due("three arguments", 3, x.put(0, "o7"));
        for (int bound = 0; bound < 3; bound++) {
            x.put(0, "o1");
            for (int v : new int[] {-1, 2 + bound, MIN, MAX}) Check.due("variable " + v, IAE, x.put(0, 0, v));
            Check.due("the last variable", 3 - bound, x.put(0, 0, 1 + bound));
            Check.due("variable 0", 2 - bound, x.put(0, 0, 0));
        }
        Check.reads(x, 0, "o7 o1 v1 v0 o1 v2 v0 o1 v3 v0");
    }

    private static void variablesUnderMany() {
        Desk x = Desk.with();
        x.begin(0, 0);
        Check.due("variable 0 at depth 0", IAE, x.put(0, 0, 0));
        x.put(0, "o1");
        int[] binds = {1, 2, 2, 1};
        int variables = 0;
        for (int b : binds) {
            x.put(0, b == 1 ? "o2" : "o3");
            variables += b;
            Check.due("variable " + variables, IAE, x.put(0, 0, variables));
        }
        Check.due("the last variable", 1, x.put(0, 0, variables - 1));
        Check.due("behind the argument there is none again", IAE, x.put(0, 0, 0));
    }

    private static void operationsThatThereAre() {
        Desk x = Desk.with();
        x.begin(0, 0);
        for (int f : new int[] {-1, 8, MIN, MAX}) Check.due("operation " + f, IAE, x.put(0, 1, f));
        x.operation(0, -1, -1);
        Check.due("operation 9", IAE, x.put(0, 1, 9));
        Check.due("operation 8, told in the midst", 1, x.put(0, 1, 8));
        Check.due("operation 0", 0, x.put(0, 1, 0));
    }

    private static void holesThatThereAre() {
        Desk x = Desk.with(0, 0);
        x.begin(0, 0);
        for (int h : new int[] {-1, 2, 24, MIN, MAX}) Check.due("hole " + h, IAE, x.put(0, 2, h));
        x.hole(0);
        Check.due("hole 3", IAE, x.put(0, 2, 3));
        Check.due("hole 2, told in the midst", 0, x.put(0, 2, 2));
        x.term(1, 0, "h0");
        x.term(2, 0, "h1");
        Check.due("unify", 0, x.unify(1, 2));
        Check.due("new holes", 1, x.count(2));
        x.begin(0, 0);
        for (int h : new int[] {3, 23, 24, 25}) Check.due("no new hole is put, " + h, IAE, x.put(0, 2, h));
    }

    private static void behindAHole() {
        Desk x = Desk.with(2, 0);
        x.begin(0, 3);
        x.put(0, "o1");
        Check.due("hole 0", 3, x.put(0, "h0"));
        for (int left = 2; left > 0; left--) {
            Check.due("an operation", IAE, x.put(0, "o1"));
            Check.due("an operation without arguments", IAE, x.put(0, "o0"));
            Check.due("a hole", IAE, x.put(0, "h0"));
            Check.due("a hole without parameters", IAE, x.put(0, "h1"));
            Check.due("no such variable", IAE, x.put(0, 0, 3));
            Check.due("no such variable", IAE, x.put(0, 0, -1));
            Check.due("a variable", left, x.put(0, 0, left));
        }
        Check.due("an operation may stand again", 2, x.put(0, "o1"));
        Check.due("a hole may stand again", 1, x.put(0, "h1"));
        Check.due("nothing stands behind a hole without parameters", 0, x.put(0, "o0"));
        Check.reads(x, 0, "o1 h0 v1 v2 o1 h1 o0");
    }

    private static void eachAnotherOne() {
        Desk x = Desk.with(4);
        x.begin(0, 4);
        x.putAll(0, "o1 h0");
        int[] order = {2, 0, 3, 1};
        for (int i = 0; i < 4; i++) {
            for (int k = 0; k < i; k++) Check.due("variable " + order[k] + " again", IAE, x.put(0, 0, order[k]));
            Check.due("variable " + order[i], 4 - i, x.put(0, 0, order[i]));
        }
        Check.due("another place", 4, x.put(0, "h0"));
        Check.due("the same variables at another place", 0, x.putAll(0, "v1 v3 v0 v2"));
    }

    private static void variablesOfAHoleUnderBound() {
        Desk x = Desk.with(3);
        x.begin(0, 1);
        x.putAll(0, "o1 o3");
        Check.due("hole 0", 4, x.put(0, "h0"));
        Check.due("variable 3", IAE, x.put(0, 0, 3));
        Check.due("variables 0, 1, 2", 1, x.putAll(0, "v2 v1 v0"));
        Check.due("behind the argument variable 1", IAE, x.put(0, 0, 1));
        Check.due("behind the argument variable 0", 0, x.put(0, 0, 0));
    }

    private static void howManyAreDue() {
        Desk x = Desk.with(4, 0);
        Check.due("begin", 1, x.begin(0, 4));
        Check.due("three more, one less", 3, x.put(0, "o4"));
        Check.due("four variables more, one less", 6, x.put(0, "h0"));
        Check.due("a variable of a hole", 5, x.put(0, "v0"));
        Check.due("the last one", 2, x.putAll(0, "v1 v2 v3"));
        Check.due("a hole without parameters", 1, x.put(0, "h1"));
        Check.due("two more, one less", 2, x.put(0, "o1"));
        Check.due("an operation without arguments", 1, x.put(0, "o0"));
        Check.due("a variable", 0, x.put(0, "v3"));
    }

    private static String times(int n, String items) {
        return (items + " ").repeat(n);
    }

    private static void sizeThirty() {
        Desk x = Desk.with();
        x.term(0, 0, "o2 " + times(14, "o1 o0") + "o0");
        Check.due("a whole term of 30 items", 30, x.read(0));
        x.begin(1, 0);
        x.putAll(1, "o2 o2 " + times(14, "o1 o0"));
        Check.due("an operation as item 31", NONE, x.put(1, "o0"));
        Check.due("a variable as item 31", NONE, x.put(1, "v0"));
        Check.due("it is not whole", ISE, x.read(1));
    }

    /** Variables and holes count as items as operations do. */
    private static void sizeOfEachSort() {
        Desk x = Desk.with(0, 1);
        String[] leaves = {"o0", "v0", "h0", "h1 v0"};
        for (String leaf : leaves) {
            x.begin(0, 1);
            x.putAll(0, times(14, "o1 " + leaf));
            Check.due("item 29 is " + leaf, 0, x.putAll(0, leaf));
            x.begin(0, 1);
            x.putAll(0, "o2 o2 " + times(14, "o1 " + leaf));
            for (String item : new String[] {"o0", "v0", "h0", "h1"}) {
                Check.due(item + " as item 31, with 14 times " + leaf, NONE, x.put(0, item));
            }
        }
    }

    private static void sizeThirtyOneChangesNothing() {
        Desk x = Desk.with(2, 0);
        x.begin(0, 2);
        x.putAll(0, times(30, "o1"));
        for (int i = 0; i < 3; i++) {
            for (String item : new String[] {"v1", "o0", "o1", "o4", "h0", "h1"}) {
                Check.due(item + " as item 31", NONE, x.put(0, item));
            }
        }
        Check.due("it is not whole", ISE, x.read(0));
        Check.due("and none is taken back", ISE, x.unify(0, 0));
    }

    private static void sizeWithoutVariablesOfHoles() {
        Desk x = Desk.with(4);
        x.begin(0, 4);
        x.putAll(0, "o2 o2 " + times(9, "o4"));
        for (int i = 0; i < 18; i++) Check.due("a hole of the 29", 18 - i, x.putAll(0, "h0 v0 v1 v2 v3"));
        Check.due("item 30 is a hole", 4, x.put(0, "h0"));
        Check.due("an operation behind it is no item 31", IAE, x.put(0, "o0"));
        Check.due("a hole behind it is no item 31", IAE, x.put(0, "h0"));
        Check.due("its variables are not counted", 0, x.putAll(0, "v5 v4 v3 v2"));
        Check.due("11 operations and 19 holes of five", 106, x.read(0));
    }

    private static void thirteenVariables() {
        Desk x = Desk.with();
        x.begin(0, 6);
        Check.due("10 variables", 1, x.putAll(0, "o3 o3"));
        Check.due("12 variables", 1, x.put(0, "o3"));
        Check.due("13 variables", NONE, x.put(0, "o2"));
        Check.due("14 variables", NONE, x.put(0, "o3"));
        Check.due("12 variables in the arguments", 3, x.put(0, "o4"));
        Check.due("variable 12", IAE, x.put(0, 0, 12));
        Check.due("variable 11", 2, x.put(0, 0, 11));
        Check.due("an operation without arguments", 1, x.put(0, "o0"));
        Check.due("variable 0", 0, x.put(0, 0, 0));
        Check.reads(x, 0, "o3 o3 o3 o4 v11 o0 v0");
    }

    private static void thirteenFromEleven() {
        Desk x = Desk.with();
        x.begin(0, 5);
        Check.due("11 variables", 1, x.putAll(0, "o3 o3 o3"));
        Check.due("13 variables", NONE, x.put(0, "o3"));
        Check.due("12 variables", 1, x.put(0, "o2"));
        Check.due("13 variables", NONE, x.put(0, "o2"));
        Check.due("variable 11", 0, x.put(0, 0, 11));
    }

    private static void thirteenInOneArgument() {
        Desk x = new Desk();
        x.operation(1, -1, -1);
        x.operation(2, 0, 0);
        x.operation(0, 2, 0);
        x.operation(0, 0, 2);
        x.operation(1, 1, 1);
        x.begin(0, 6);
        for (int variables = 7; variables <= 11; variables++) x.put(0, 1, 0);
        for (int f = 1; f <= 3; f++) Check.due("13 in argument " + f, NONE, x.put(0, 1, f));
        Check.due("12 in every argument", 3, x.put(0, 1, 4));
        for (int f = 0; f <= 4; f++) Check.due("13 or 14 in one", NONE, x.put(0, 1, f));
        Check.due("variable 11", 2, x.put(0, 0, 11));
    }

    /** What operations bind that were told before and after this one has no part in it. */
    private static void twelveBesideOthers() {
        Desk x = new Desk();
        x.operation(2, 2, 2);
        x.operation(0, 0, 0);
        x.operation(2, 2, 2);
        x.operation(0, -1, -1);
        x.operation(2, 2, 2);
        x.operation(-1, -1, -1);
        x.operation(2, 2, 2);
        x.begin(0, 6);
        for (int i = 0; i < 3; i++) x.put(0, 1, 0);
        Check.due("14 variables", NONE, x.put(0, 1, 0));
        Check.due("12 variables in three arguments", 9, x.put(0, 1, 1));
        Check.due("12 variables in one argument", 9, x.put(0, 1, 3));
        Check.due("no argument", 8, x.put(0, 1, 5));
        Check.due("variable 11", 7, x.put(0, 0, 11));
    }

    private static void thirteenChangesNothing() {
        Desk x = Desk.with();
        x.begin(0, 0);
        Check.due("12 variables", 2, x.putAll(0, "o1 o3 o3 o3 o3 o3 o3"));
        for (int i = 0; i < 30; i++) Check.due("13 variables", NONE, x.put(0, i % 2 == 0 ? "o2" : "o7"));
        Check.due("variable 11", 1, x.put(0, 0, 11));
        Check.due("behind the argument there is room again", 1, x.putAll(0, "o3 o3 o3 o3 o3 o3"));
        Check.due("variable 11", 0, x.put(0, 0, 11));
        Check.reads(x, 0, "o1 o3 o3 o3 o3 o3 o3 v11 o3 o3 o3 o3 o3 o3 v11");
    }

    private static void refusedChangesNothing() {
        Desk x = Desk.with(2);
        x.begin(0, 2);
        String[] good = {"o1", "h0", "v1", "v0", "o2", "v2"};
        int[][] bad = {{3, 0}, {0, 7}, {1, 8}, {2, 1}, {-1, 0}, {0, -1}, {1, -1}, {2, -1}};
        for (String item : good) {
            for (int[] b : bad) Check.due("ahead of " + item, IAE, x.put(0, b[0], b[1]));
            x.put(0, item);
        }
        Check.reads(x, 0, "o1 h0 v0 v1 o2 v2");
        Check.due("count(4)", 6, x.count(4));
    }

    public static void main(String[] args) {
        Check.edge(1, "No operations", PuttingEdgesTest::noOperations);
        Check.edge(1, "no holes", PuttingEdgesTest::noHoles);
        Check.edge(1, "no terms", PuttingEdgesTest::noTerms);
        Check.edge(1, "a new object, beside another one", PuttingEdgesTest::ofItsOwn);
        Check.edge(1, "NONE = -1", PuttingEdgesTest::none);

        Check.edge(2, "each binds so many variables: 0", PuttingEdgesTest::bindsNone);
        Check.edge(2, "each binds so many variables: 2", PuttingEdgesTest::bindsTwo);
        Check.edge(2, "of its arguments each binds so many", PuttingEdgesTest::bindsOfItsOwn);
        Check.edge(2, "IllegalArgumentException when one is not so", PuttingEdgesTest::bindsWrongly);
        Check.edge(2, "-1 where there is none (and for those behind it)", PuttingEdgesTest::noneAndThoseBehind);
        Check.edge(2, "its number; NONE when there are 16", PuttingEdgesTest::sixteenOperations);

        Check.edge(3, "n parameters, 0 .. 4", PuttingEdgesTest::zeroToFourParameters);
        Check.edge(3, "IllegalArgumentException when n is not so", PuttingEdgesTest::parametersWrong);
        Check.edge(3, "its number; NONE when there are 24", PuttingEdgesTest::twentyFourHoles);
        Check.edge(3, "24 that were told", PuttingEdgesTest::newHolesAreNotTold);

        Check.edge(4, "IllegalArgumentException when there is no such slot", PuttingEdgesTest::slotsOfBegin);
        Check.edge(4, "IllegalArgumentException when depth is not 0 .. 6", PuttingEdgesTest::depthsOfBegin);
        Check.edge(4, "a begin that is refused", PuttingEdgesTest::beginIsRefused);
        Check.edge(4, "begins anew: 1 item is due", PuttingEdgesTest::beginsAnew);
        Check.edge(4, "begins anew when it was full", PuttingEdgesTest::beginsAnewWhenFull);
        Check.edge(4, "slots 0 .. 7 have a term each", PuttingEdgesTest::slotsHaveATermEach);

        Check.edge(5, "IllegalArgumentException when there is no such slot", PuttingEdgesTest::slotsOfPut);
        Check.edge(5, "else IllegalStateException when none is due", PuttingEdgesTest::noneIsDue);
        Check.edge(5, "none is due, ahead of what is not there", PuttingEdgesTest::noneIsDueComesFirst);
        Check.edge(5, "none is due, when the size is 30", PuttingEdgesTest::noneIsDueWhenItIsFull);
        Check.edge(5, "no such sort", PuttingEdgesTest::sorts);
        Check.edge(5, "no such variable: 0 .. depth + b - 1", PuttingEdgesTest::variablesAtAPlace);
        Check.edge(5, "no such variable under several bound ones", PuttingEdgesTest::variablesUnderMany);
        Check.edge(5, "no such operation", PuttingEdgesTest::operationsThatThereAre);
        Check.edge(5, "no such hole", PuttingEdgesTest::holesThatThereAre);
        Check.edge(5, "what must stand behind a hole: variables", PuttingEdgesTest::behindAHole);
        Check.edge(5, "behind a hole each another one", PuttingEdgesTest::eachAnotherOne);
        Check.edge(5, "variables of a hole under bound ones", PuttingEdgesTest::variablesOfAHoleUnderBound);
        Check.edge(5, "how many items are due", PuttingEdgesTest::howManyAreDue);
        Check.edge(5, "NONE when its size would be above 30", PuttingEdgesTest::sizeThirty);
        Check.edge(5, "above 30, with items of each sort", PuttingEdgesTest::sizeOfEachSort);
        Check.edge(5, "above 30, changing nothing", PuttingEdgesTest::sizeThirtyOneChangesNothing);
        Check.edge(5, "30 items without the variables of holes", PuttingEdgesTest::sizeWithoutVariablesOfHoles);
        Check.edge(5, "NONE when an argument would have more than 12 variables", PuttingEdgesTest::thirteenVariables);
        Check.edge(5, "more than 12, from 11 on", PuttingEdgesTest::thirteenFromEleven);
        Check.edge(5, "more than 12 in one of the arguments", PuttingEdgesTest::thirteenInOneArgument);
        Check.edge(5, "12 beside operations that bind more", PuttingEdgesTest::twelveBesideOthers);
        Check.edge(5, "more than 12, changing nothing", PuttingEdgesTest::thirteenChangesNothing);
        Check.edge(5, "a put that is refused", PuttingEdgesTest::refusedChangesNothing);
        Check.end();
    }
}
