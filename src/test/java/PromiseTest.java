import java.util.Arrays;

/** The document's promises one by one, with ordinary inputs; the edges have tests of their own. */
public final class PromiseTest {
    private static final int IAE = Desk.IAE;
    private static final int ISE = Desk.ISE;
    private static final int IOOBE = Desk.IOOBE;

    private static void due(String call, int want, int got) {
        Check.due(call, want, got);
    }

    private static void term(Desk x, int slot, int depth, String items) {
        x.term(slot, depth, items);
    }

    private static void reads(Desk x, int slot, String items) {
        Check.reads(x, slot, items);
    }

    private static void counts(Desk x, int... want) {
        Check.counts(x, 0, want);
    }

    /** Operations 0: c, 1: pair(., .), 2: bind(1 variable), 3: bind(2 variables), 4: three(., ., .). */
    private static Desk desk(int... parameters) {
        Desk x = new Desk();
        x.operation(-1, -1, -1);
        x.operation(0, 0, -1);
        x.operation(1, -1, -1);
        x.operation(2, -1, -1);
        x.operation(0, 0, 0);
        for (int n : parameters) x.hole(n);
        return x;
    }

    private static void newObject() {
        Check.part("promise 1");
        Desk x = new Desk();
        counts(x, 0, 0, 0, 0, 0, 0, 0, 0);
        due("item(0)", IOOBE, x.item(0));
        due("size(0)", IAE, x.size(0));
        due("uses(0)", IAE, x.uses(0));
        due("empty()", 0, x.empty());
        for (int slot = 0; slot < 8; slot++) {
            due("put", ISE, x.put(slot, 0, 0));
            due("read", ISE, x.read(slot));
            due("unify", ISE, x.unify(slot, slot));
            due("isSame", ISE, x.isSame(slot, slot));
        }
        due("NONE", -1, HoleFiller.NONE);
    }

    private static void operation() {
        Check.part("promise 2");
        Desk x = new Desk();
        int[][] bad = {{-2, -1, -1}, {3, -1, -1}, {0, 3, -1}, {0, -2, -1}, {0, 0, 3}, {0, 0, -2}, {-1, 0, -1},
            {-1, -1, 0}, {0, -1, 0}, {-1, 0, 0}, {Integer.MIN_VALUE, -1, -1}, {0, Integer.MAX_VALUE, -1}};
        int[][] good = {{-1, -1, -1}, {0, -1, -1}, {2, 2, -1}, {2, 1, 0}, {0, 0, 2}};
        for (int i = 0; i < 16; i++) {
            for (int[] b : bad) due("operation" + Arrays.toString(b), IAE, x.operation(b[0], b[1], b[2]));
            int[] g = good[i % good.length];
            due("operation" + Arrays.toString(g), i, x.operation(g[0], g[1], g[2]));
            due("count(0)", i + 1, x.count(0));
        }
        due("operation when there are 16", -1, x.operation(0, 0, 0));
        due("operation when there are 16, and wrong", IAE, x.operation(0, 0, 3));
        due("count(0)", 16, x.count(0));
        x.begin(0, 0);
        due("put operation 15", 0, x.put(0, 1, 15));
        x.begin(0, 0);
        due("put operation 16", IAE, x.put(0, 1, 16));
        due("put operation 3", 3, x.put(0, 1, 3));
        due("its first argument binds two", IAE, x.put(0, 0, 2));
        due("its first argument binds two", 2, x.put(0, 0, 1));
        due("its second argument binds one", IAE, x.put(0, 0, 1));
        due("its second argument binds one", 1, x.put(0, 0, 0));
        due("its third argument binds none", IAE, x.put(0, 0, 0));
    }

    private static void hole() {
        Check.part("promise 3");
        Desk x = new Desk();
        for (int i = 0; i < 24; i++) {
            int n = i % 5;
            due("hole(-1)", IAE, x.hole(-1));
            due("hole(5)", IAE, x.hole(5));
            due("hole(" + n + ")", i, x.hole(n));
            due("count(1)", i + 1, x.count(1));
        }
        due("hole(0) when there are 24", -1, x.hole(0));
        due("hole(5) when there are 24", IAE, x.hole(5));
        due("hole(min)", IAE, x.hole(Integer.MIN_VALUE));
        counts(x, 0, 24, 0, 0);
        Desk y = desk(1, 1);
        term(y, 0, 1, "h0 v0");
        term(y, 1, 1, "h1 v0");
        y.unify(0, 1);
        counts(y, 5, 2, 1, 2);
        due("a hole told behind a new one", 2, y.hole(3));
        due("it is open", 7, y.uses(2));
    }

    private static void begin() {
        Check.part("promise 4");
        Desk x = desk();
        due("begin(-1, 0)", IAE, x.begin(-1, 0));
        due("begin(8, 0)", IAE, x.begin(8, 0));
        due("begin(0, -1)", IAE, x.begin(0, -1));
        due("begin(0, 7)", IAE, x.begin(0, 7));
        due("put", ISE, x.put(0, 1, 0));
        due("begin(7, 6)", 1, x.begin(7, 6));
        due("variable 6 of 0 .. 5", IAE, x.put(7, 0, 6));
        due("variable 5 of 0 .. 5", 0, x.put(7, 0, 5));
        due("begin of another depth", 1, x.begin(7, 1));
        due("read of what is begun", ISE, x.read(7));
        due("variable 5 of 0", IAE, x.put(7, 0, 5));
        due("pair", 2, x.put(7, 1, 1));
        due("a wrong begin leaves the term", IAE, x.begin(7, 9));
        due("first of pair", 1, x.put(7, 0, 0));
        due("begin in the midst", 1, x.begin(7, 0));
        due("c", 0, x.put(7, 1, 0));
        reads(x, 7, "o0");
        due("begin(0, 0)", 1, x.begin(0, 0));
        due("no variable at depth 0", IAE, x.put(0, 0, 0));
    }

    private static void put() {
        Check.part("promise 5");
        Desk x = desk(0, 3, 1);
        due("no slot", IAE, x.put(-1, 0, 0));
        due("no slot", IAE, x.put(8, 0, 0));
        due("none due, nothing else right", ISE, x.put(0, 9, -4));
        x.begin(0, 3);
        int[][] bad = {{-1, 0}, {3, 0}, {0, -1}, {0, 3}, {1, -1}, {1, 5}, {2, -1}, {2, 3}, {4, 0}};
        for (int[] b : bad) due("put" + Arrays.toString(b), IAE, x.put(0, b[0], b[1]));
        due("pair", 2, x.put(0, 1, 1));
        due("bind two", 2, x.put(0, 1, 3));
        due("hole 1", 4, x.put(0, 2, 1));
        due("operation behind a hole", IAE, x.put(0, 1, 0));
        due("hole behind a hole", IAE, x.put(0, 2, 0));
        due("variable 5 of 5", IAE, x.put(0, 0, 5));
        due("variable 4", 3, x.put(0, 0, 4));
        due("variable 4 again", IAE, x.put(0, 0, 4));
        due("variable 0", 2, x.put(0, 0, 0));
        due("variable 4 again", IAE, x.put(0, 0, 4));
        due("variable 0 again", IAE, x.put(0, 0, 0));
        due("variable 2", 1, x.put(0, 0, 2));
        due("back at depth 3", IAE, x.put(0, 0, 3));
        due("hole 2", 1, x.put(0, 2, 2));
        due("its variables are its own", 0, x.put(0, 0, 2));
        due("none due", ISE, x.put(0, 0, 0));
        reads(x, 0, "o1 o3 h0 v0 v2 v4 h1 v2");
        x.begin(1, 0);
        due("a hole without parameters", 0, x.put(1, 2, 0));
        x.begin(1, 2);
        due("a hole with more parameters than variables", 3, x.put(1, 2, 1));
        due("one", 2, x.put(1, 0, 0));
        due("two", 1, x.put(1, 0, 1));
        due("no third one", IAE, x.put(1, 0, 2));
        due("not whole", ISE, x.read(1));
        putToTheSize();
        putToTheVariables();
    }

    private static void putToTheSize() {
        Desk x = desk(4, 0);
        x.begin(0, 4);
        for (int i = 0; i < 10; i++) x.put(0, 1, 1);
        for (int i = 0; i < 10; i++) {
            x.put(0, 2, 0);
            for (int v = 0; v < 4; v++) x.put(0, 0, v);
        }
        due("item 21: pair", 2, x.put(0, 1, 1));
        for (int i = 0; i < 8; i++) x.put(0, 1, 2);
        due("item 30: hole", 5, x.put(0, 2, 0));
        for (int v = 0; v < 4; v++) {
            due("a hole's variable behind item 30", 4 - v, x.put(0, 0, v + 3));
        }
        due("item 31: variable", -1, x.put(0, 0, 0));
        due("item 31: operation", -1, x.put(0, 1, 0));
        due("item 31: hole", -1, x.put(0, 2, 0));
        due("item 31: hole", -1, x.put(0, 2, 1));
        due("item 31: no such variable", IAE, x.put(0, 0, 4));
        due("item 31: no such sort", IAE, x.put(0, 3, 0));
        due("still not whole", ISE, x.read(0));
    }

    private static void putToTheVariables() {
        Desk x = desk();
        x.operation(1, 2, 1);
        x.begin(0, 6);
        for (int i = 0; i < 2; i++) due("bind two", 1, x.put(0, 1, 3));
        due("bind one: 11 variables", 1, x.put(0, 1, 2));
        due("bind two: 13 variables", -1, x.put(0, 1, 3));
        due("another argument that binds two", -1, x.put(0, 1, 5));
        due("bind one: 12 variables", 1, x.put(0, 1, 2));
        due("bind one: 13 variables", -1, x.put(0, 1, 2));
        due("three that bind none", 3, x.put(0, 1, 4));
        due("variable 12", IAE, x.put(0, 0, 12));
        due("variable 11", 2, x.put(0, 0, 11));
        due("variable 0", 1, x.put(0, 0, 0));
        due("c", 0, x.put(0, 1, 0));
        reads(x, 0, "o3 o3 o2 o2 o4 v11 v0 o0");
        x.begin(1, 0);
        for (int i = 0; i < 6; i++) due("bind two", 1, x.put(1, 1, 3));
        due("bind two: 14 variables", -1, x.put(1, 1, 3));
        due("c", 0, x.put(1, 1, 0));
    }

    private static void unifyThrows() {
        Check.part("promise 6, exceptions");
        Desk x = desk();
        term(x, 0, 1, "v0");
        term(x, 1, 2, "v0");
        x.begin(2, 1);
        due("no slot", IAE, x.unify(-1, 0));
        due("no slot", IAE, x.unify(0, 8));
        due("no slot ahead of not whole", IAE, x.unify(2, 8));
        due("no slot ahead of not whole", IAE, x.unify(-1, 2));
        due("not whole", ISE, x.unify(0, 2));
        due("not whole", ISE, x.unify(2, 0));
        due("never begun", ISE, x.unify(0, 7));
        due("other depths", ISE, x.unify(0, 1));
        counts(x, 5, 0, 0, 0, 0, 0, 0, 0);
        due("with itself", 0, x.unify(0, 0));
        counts(x, 5, 0, 0, 0, 0, 0, 1, 0);
    }

    private static void unifyPlain() {
        Check.part("promise 6, without holes");
        Desk x = desk();
        term(x, 0, 2, "o1 v0 o2 v1");
        term(x, 1, 2, "o1 v0 o2 v1");
        term(x, 2, 2, "o1 v0 o2 v2");
        term(x, 3, 2, "o1 v0 v1");
        term(x, 4, 2, "o1 v0 o3 v1");
        due("the same", 0, x.unify(0, 1));
        due("another variable", 1, x.unify(0, 2));
        due("operation and variable", 1, x.unify(0, 3));
        due("variable and operation", 1, x.unify(3, 0));
        due("another operation", 1, x.unify(0, 4));
        counts(x, 5, 0, 0, 0, 0, 0, 1, 4);
    }

    private static void unifyHoles() {
        Check.part("promise 6, holes with holes");
        Desk x = desk(3, 2, 3);
        term(x, 0, 4, "h0 v1 v2 v3");
        term(x, 1, 4, "h0 v1 v3 v2");
        due("the same hole, the same variables", 0, x.unify(0, 0));
        counts(x, 5, 3, 0, 0);
        due("the same hole, one variable the same", 0, x.unify(0, 1));
        counts(x, 5, 3, 1, 1);
        due("uses(0)", 1, x.uses(0));
        reads(x, 1, "h0 v1");
        due("again", 0, x.unify(0, 1));
        counts(x, 5, 3, 1, 1);
        x.empty();
        term(x, 2, 4, "h2 v3 v0 v2");
        due("two holes", 0, x.unify(0, 2));
        counts(x, 5, 3, 1, 2);
        due("uses(0)", 6, x.uses(0));
        due("uses(2)", 5, x.uses(2));
        reads(x, 0, "h0 v2 v3");
        reads(x, 2, "h0 v2 v3");
        term(x, 3, 4, "o1 h0 v1 v2 v3 h2 v1 v2 v3");
        reads(x, 3, "o1 h0 v2 v3 h0 v3 v1");
        due("isSame", 1, x.isSame(0, 2));
        x.empty();
        term(x, 4, 4, "h2 v1 v2 v3");
        due("two holes with the same variables", 0, x.unify(0, 4));
        counts(x, 5, 3, 1, 2);
        x.empty();
        term(x, 6, 4, "h0 v2 v3 v0");
        term(x, 7, 4, "h1 v1 v2");
        due("one common variable", 0, x.unify(6, 7));
        due("uses(0)", 1, x.uses(0));
        due("uses(1)", 2, x.uses(1));
    }

    private static void unifyTerms() {
        Check.part("promise 6, holes with terms");
        Desk x = desk(2, 2, 1);
        term(x, 0, 3, "h0 v2 v0");
        term(x, 1, 3, "o1 v0 o2 o1 v0 v3");
        due("hole and term", 0, x.unify(0, 1));
        counts(x, 5, 3, 0, 1);
        due("size(0)", 6, x.size(0));
        due("uses(0)", 3, x.uses(0));
        term(x, 2, 3, "o3 h0 v1 v4");
        reads(x, 2, "o3 o1 v4 o2 o1 v0 v2");
        x.empty();
        due("term and hole", 0, x.unify(1, 0));
        reads(x, 0, "o1 v0 o2 o1 v0 v3");
        x.empty();
        term(x, 3, 3, "o1 v0 o2 v2");
        due("a free variable that the hole has not", 2, x.unify(0, 3));
        term(x, 3, 3, "v1");
        due("a variable that the hole has not", 2, x.unify(3, 0));
        counts(x, 5, 3, 0, 0);
        term(x, 3, 3, "v2");
        due("a variable that the hole has", 0, x.unify(3, 0));
        due("uses(0)", 1, x.uses(0));
        due("size(0)", 1, x.size(0));
        x.empty();
        term(x, 3, 3, "o1 v0 h0 v2 v0");
        due("the hole within", 3, x.unify(3, 0));
        term(x, 3, 3, "o1 v0 h0 v0 v1");
        due("the hole within, with other variables", 3, x.unify(0, 3));
        term(x, 3, 3, "o1 v1 h0 v2 v0");
        due("the variable comes first", 2, x.unify(0, 3));
        term(x, 3, 3, "o1 h0 v2 v0 v1");
        due("the hole comes first", 3, x.unify(0, 3));
        counts(x, 5, 3, 0, 0);
    }

    private static void unifyNarrows() {
        Check.part("promise 6, holes in terms");
        Desk x = desk(2, 2, 1, 4);
        term(x, 0, 3, "h0 v2 v0");
        term(x, 1, 3, "o2 o1 h1 v0 v2 h1 v3 v1");
        due("another hole loses a parameter", 0, x.unify(0, 1));
        due("uses(1)", 1, x.uses(1));
        due("uses(0)", 1, x.uses(0));
        counts(x, 5, 4, 1, 2);
        reads(x, 0, "o2 o1 h0 v0 h0 v3");
        reads(x, 1, "o2 o1 h0 v0 h0 v3");
        x.empty();
        term(x, 2, 3, "o2 o1 h3 v0 v1 v2 v3 h3 v2 v0 v1 v3");
        due("another hole loses one at each place", 0, x.unify(2, 0));
        reads(x, 2, "o2 o1 h0 v1 v3 h0 v0 v3");
        due("isSame", 1, x.isSame(0, 2));
        due("uses(3)", 10, x.uses(3));
        due("uses(0)", 3, x.uses(0));
        due("size(0)", 4, x.size(0));
        counts(x, 5, 4, 2, 3);
        x.empty();
        term(x, 4, 3, "o1 h1 v0 v2 v1");
        due("what was narrowed ahead of a fault comes back", 2, x.unify(0, 4));
        counts(x, 5, 4, 0, 0);
        due("uses(1)", 3, x.uses(1));
        term(x, 5, 3, "o1 h2 v1 h2 v1");
        due("a hole that loses all", 0, x.unify(0, 5));
        reads(x, 0, "o1 h0 h0");
        due("uses(2)", 0, x.uses(2));
        due("uses(0)", 0, x.uses(0));
    }

    private static void unifyGoesOn() {
        Check.part("promise 6, the row of equations");
        Desk x = desk(1, 1, 0, 0);
        term(x, 0, 1, "o1 h0 v0 h0 v0");
        term(x, 1, 1, "o1 o2 v1 o2 h1 v1");
        due("the second equation has the filling of the first", 0, x.unify(0, 1));
        reads(x, 1, "o1 o2 v1 o2 v1");
        due("uses(1)", 1, x.uses(1));
        x.empty();
        term(x, 2, 1, "o1 o2 v1 o2 v0");
        due("the fillings of a faulty unifying go", 1, x.unify(0, 2));
        counts(x, 5, 4, 0, 0, 5, 0, 1, 1);
        reads(x, 0, "o1 h0 v0 h0 v0");
        term(x, 3, 1, "o1 o1 h2 o0 v0");
        term(x, 4, 1, "o1 h2 o0");
        due("the arguments of the first one come first", 3, x.unify(3, 4));
        term(x, 3, 1, "o1 v0 o1 h2 o0");
        term(x, 4, 1, "o1 o0 h2");
        due("the first one comes first", 1, x.unify(3, 4));
        term(x, 5, 1, "h2");
        term(x, 6, 1, "o1 h3 o0");
        due("hole 2 has hole 3", 0, x.unify(5, 6));
        term(x, 5, 1, "h3");
        term(x, 6, 1, "o1 o0 h2");
        due("hole 3 would have hole 2", 3, x.unify(5, 6));
        counts(x, 5, 4, 0, 1);
        due("size(2)", 3, x.size(2));
        term(x, 6, 1, "o0");
        due("hole 3", 0, x.unify(5, 6));
        term(x, 7, 1, "o1 h2 h3");
        reads(x, 7, "o1 o1 o0 o0 o0");
        term(x, 6, 1, "h2");
        due("two that are filled, with others", 1, x.unify(5, 6));
    }

    private static void unifyGrows() {
        Check.part("promise 6, sizes");
        Desk x = desk(0, 0, 0, 0, 0);
        StringBuilder of26 = new StringBuilder("o2");
        for (int i = 0; i < 12; i++) of26.append(" o1 o0");
        of26.append(" o0");
        term(x, 0, 1, "h0");
        term(x, 1, 1, of26.toString());
        due("26", 0, x.unify(0, 1));
        due("size(0)", 26, x.size(0));
        term(x, 2, 1, "h1");
        term(x, 3, 1, "o2 o4 h0 h0 h0");
        due("80", 0, x.unify(2, 3));
        due("size(1)", 80, x.size(1));
        term(x, 4, 1, "h2");
        term(x, 5, 1, "o2 o2 o4 h0 h0 h0");
        due("81", 4, x.unify(4, 5));
        due("81", 4, x.unify(5, 4));
        due("size(2)", 1, x.size(2));
        counts(x, 5, 5, 0, 2, 0, 0, 2, 2);
        term(x, 5, 1, "o1 o4 h0 h0 h0 o1 o0 v0");
        due("a variable of what is too large", 2, x.unify(4, 5));
        term(x, 4, 1, "h3");
        term(x, 5, 1, "o2 o2 o4 h4 h4 h4");
        due("6", 0, x.unify(4, 5));
        term(x, 6, 1, "h4");
        due("another hole would have 81", 4, x.unify(6, 1));
        due("size(3)", 6, x.size(3));
        due("size(4)", 1, x.size(4));
        term(x, 7, 1, of26.substring(3));
        due("another hole has 78", 0, x.unify(6, 7));
        due("size(3)", 78, x.size(3));
        due("size(4)", 25, x.size(4));
        term(x, 7, 1, "o4 h1 h1 o4 h1 h1 h1");
        due("a term may be larger", 402, x.read(7));
        due("item(401)", 1, x.item(401));
        due("item(402)", IOOBE, x.item(402));
        term(x, 4, 1, "o1 h2 o0");
        term(x, 5, 1, "o1 o1 h1 h1 v0");
        due("too large ahead of a clash", 4, x.unify(4, 5));
        term(x, 4, 1, "o1 o0 h2");
        term(x, 5, 1, "o1 v0 o1 h1 h1");
        due("a clash ahead of too large", 1, x.unify(4, 5));
    }

    /** 22 holes of 76 items each, two times, most of them read in one term. */
    private static void unifyMuch() {
        Check.part("promise 6, much of it");
        Desk x = desk();
        for (int h = 0; h < 24; h++) x.hole(h == 23 ? 0 : 1);
        StringBuilder of25 = new StringBuilder();
        for (int i = 0; i < 12; i++) of25.append("o1 o0 ");
        of25.append("h23");
        String of76 = ("o4 " + of25 + " " + of25 + " " + of25).replace("h23", "h0");
        term(x, 0, 1, "h0 v0");
        term(x, 1, 1, of25.toString());
        x.begin(2, 1);
        for (int i = 0; i < 9; i++) x.put(2, 1, 4);
        for (int i = 0; i < 19; i++) {
            x.put(2, 2, i + 1);
            x.put(2, 0, 0);
        }
        for (int round = 0; round < 2; round++) {
            due("unify", 0, x.unify(0, 1));
            term(x, 4, 1, "o4 h0 v0 h0 v0 h0 v0");
            for (int h = 1; h < 23; h++) {
                term(x, 3, 1, "h" + h + " v0");
                due("unify", 0, x.unify(3, 4));
            }
            for (int h = 1; h < 23; h++) due("size", 76, x.size(h));
            String[] all = ("o4 ".repeat(9) + (of76 + " ").repeat(19)).split(" ");
            due("read", all.length, x.read(2));
            for (int i = 0; i < all.length; i += 23) {
                int number = Integer.parseInt(all[i].substring(1));
                due("item(" + i + ")", 4 * number + "voh".indexOf(all[i].charAt(0)), x.item(i));
            }
            due("empty()", 23, x.empty());
        }
        reads(x, 0, "h0 v0");
    }

    private static void read() {
        Check.part("promise 7");
        Desk x = desk(3, 2, 0);
        term(x, 0, 4, "o1 h0 v3 v1 v2 h0 v1 v2 v3");
        due("read(0)", 9, x.read(0));
        reads(x, 0, "o1 h0 v1 v2 v3 h0 v2 v3 v1");
        term(x, 1, 4, "o4 h2 h1 v3 v0 o1 h2 h1 v0 v1");
        reads(x, 1, "o4 h0 h1 v0 v3 o1 h0 h1 v1 v0");
        counts(x, 5, 3, 0, 0, 10, 2);
        x.begin(2, 1);
        due("no slot", IAE, x.read(-1));
        due("no slot", IAE, x.read(8));
        due("not whole", ISE, x.read(2));
        due("never begun", ISE, x.read(3));
        counts(x, 5, 3, 0, 0, 10, 2);
        term(x, 2, 1, "v0");
        reads(x, 2, "v0");
        counts(x, 5, 3, 0, 0, 1, 0);
    }

    private static void item() {
        Check.part("promise 8");
        Desk x = desk(1);
        term(x, 0, 3, "o1 v2 h0 v1");
        due("item(0) before", IOOBE, x.item(0));
        x.read(0);
        int[] want = {5, 8, 2, 4};
        for (int i = 0; i < want.length; i++) due("item(" + i + ")", want[i], x.item(i));
        due("item(-1)", IOOBE, x.item(-1));
        due("item(4)", IOOBE, x.item(4));
        due("item(min)", IOOBE, x.item(Integer.MIN_VALUE));
        due("item(max)", IOOBE, x.item(Integer.MAX_VALUE));
        term(x, 1, 3, "o1 v2 v1");
        due("unify", 0, x.unify(0, 1));
        x.begin(0, 0);
        due("what was read stays", 2, x.item(2));
        x.empty();
        due("what was read stays", 4, x.item(3));
        x.read(1);
        due("item(3) of three", IOOBE, x.item(3));
        due("item(2)", 4, x.item(2));
    }

    private static void isSame() {
        Check.part("promise 9");
        Desk x = desk(2, 2);
        term(x, 0, 2, "o1 h0 v0 v1 v0");
        term(x, 1, 2, "o1 h0 v0 v1 v0");
        term(x, 2, 2, "o1 h0 v1 v0 v0");
        term(x, 3, 2, "o1 h1 v0 v1 v0");
        term(x, 4, 2, "o1 h0 v0 v1 v1");
        term(x, 5, 2, "o1 h0 v0 v1 o0");
        term(x, 6, 3, "o1 h0 v0 v1 v0");
        due("the same", 1, x.isSame(0, 1));
        due("with itself", 1, x.isSame(0, 0));
        due("other variables of a hole", 0, x.isSame(0, 2));
        due("another hole", 0, x.isSame(0, 3));
        due("another variable", 0, x.isSame(0, 4));
        due("another sort", 0, x.isSame(5, 0));
        due("other depths", ISE, x.isSame(0, 6));
        due("never begun", ISE, x.isSame(7, 0));
        due("no slot", IAE, x.isSame(7, 8));
        due("no slot", IAE, x.isSame(-1, 7));
        counts(x, 5, 2, 0, 0, 0, 0, 0, 0);
        due("unify", 0, x.unify(0, 3));
        due("the same with fillings", 1, x.isSame(0, 3));
        due("not yet", 0, x.isSame(2, 3));
        due("unify", 0, x.unify(2, 3));
        due("the same with fillings", 1, x.isSame(2, 3));
        x.empty();
        due("not the same without", 0, x.isSame(0, 3));
    }

    private static void sizeAndUses() {
        Check.part("promises 10 and 11");
        Desk x = desk(4, 3, 0);
        due("size(0)", 1, x.size(0));
        due("uses(0)", 15, x.uses(0));
        due("uses(1)", 7, x.uses(1));
        due("uses(2)", 0, x.uses(2));
        for (int h : new int[] {-1, 3, 24, Integer.MIN_VALUE, Integer.MAX_VALUE}) {
            due("size(" + h + ")", IAE, x.size(h));
            due("uses(" + h + ")", IAE, x.uses(h));
        }
        term(x, 0, 5, "h0 v4 v0 v1 v2");
        term(x, 1, 5, "o1 o3 o1 v0 v3 h1 v4 v0 v1");
        due("unify", 0, x.unify(0, 1));
        due("size(0)", 6, x.size(0));
        due("uses(0)", 7, x.uses(0));
        term(x, 2, 5, "h1 v1 v2 v3");
        term(x, 3, 5, "o1 v3 v3");
        due("unify", 0, x.unify(2, 3));
        due("size(1)", 3, x.size(1));
        due("uses(1)", 4, x.uses(1));
        due("size(0)", 8, x.size(0));
        due("uses(0)", 4, x.uses(0));
        due("new holes are not told", IAE, x.size(3));
    }

    private static void empty() {
        Check.part("promise 12");
        Desk x = desk(1, 1, 1);
        term(x, 0, 1, "h0 v0");
        term(x, 1, 1, "h1 v0");
        term(x, 2, 1, "o1 v0 v0");
        due("unify", 0, x.unify(0, 1));
        due("unify", 0, x.unify(1, 2));
        due("unify", 0, x.unify(2, 2));
        x.read(0);
        counts(x, 5, 3, 1, 3, 3, 0, 3, 0);
        due("empty()", 2, x.empty());
        counts(x, 5, 3, 0, 0, 3, 0, 3, 0);
        due("empty()", 0, x.empty());
        reads(x, 0, "h0 v0");
        reads(x, 1, "h0 v0");
        reads(x, 2, "o1 v0 v0");
        due("uses(0)", 1, x.uses(0));
        due("not the same", 0, x.isSame(0, 1));
        due("unify", 0, x.unify(0, 2));
        due("size(0)", 3, x.size(0));
        due("size(1)", 1, x.size(1));
        due("empty()", 1, x.empty());
        for (int i = 0; i < 150; i++) {
            due("unify", 0, x.unify(0, 1));
            due("new holes begin anew", 1, x.count(2));
            due("empty()", 2, x.empty());
        }
    }

    private static void count() {
        Check.part("promise 13");
        Desk x = desk(2, 2, 1);
        for (int what : new int[] {-1, 8, 9, Integer.MIN_VALUE, Integer.MAX_VALUE}) {
            due("count(" + what + ")", -1, x.count(what));
        }
        term(x, 0, 2, "o1 h0 v0 v1 h2 v0");
        term(x, 1, 2, "o1 h1 v0 v1 o0");
        term(x, 2, 2, "o1 h1 v0 v1 v1");
        term(x, 3, 2, "o4 h1 v0 v1 h0 v1 v0 h2 v0");
        x.read(3);
        counts(x, 5, 3, 0, 0, 9, 3, 0, 0);
        due("unify", 2, x.unify(0, 2));
        counts(x, 5, 3, 0, 0, 9, 3, 0, 1);
        due("unify", 0, x.unify(0, 1));
        counts(x, 5, 3, 1, 3, 9, 3, 1, 1);
        x.read(3);
        counts(x, 5, 3, 1, 3, 8, 1, 1, 1);
        x.empty();
        counts(x, 5, 3, 0, 0, 8, 1, 1, 1);
    }

    public static void main(String[] args) {
        newObject();
        operation();
        hole();
        begin();
        put();
        unifyThrows();
        unifyPlain();
        unifyHoles();
        unifyTerms();
        unifyNarrows();
        unifyGoesOn();
        unifyGrows();
        unifyMuch();
        read();
        item();
        isSame();
        sizeAndUses();
        empty();
        count();
        Check.end();
    }
}
