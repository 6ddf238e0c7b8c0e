/** Promise 6: one test for each sentence that names a boundary case, those of the part 'Terms' too. */
public final class UnifyingEdgesTest {
    private static final int IAE = Desk.IAE;
    private static final int ISE = Desk.ISE;
    private static final int MIN = Integer.MIN_VALUE;
    private static final int MAX = Integer.MAX_VALUE;

    private static String times(int n, String items) {
        return (items + " ").repeat(n);
    }

    /** A term without variables, of an odd size up to 29. */
    private static String closed(int size) {
        return times(size / 2, "o1 o0") + "o0";
    }

    /** Unifies two terms of one depth in slots 0 and 1. */
    private static int unified(Desk x, int depth, String a, String b) {
        x.term(0, depth, a);
        x.term(1, depth, b);
        return x.unify(0, 1);
    }

    // What is thrown

    private static void slots() {
        Desk x = Desk.with();
        for (int s = 0; s < 8; s++) x.term(s, 0, "o0");
        for (int s : new int[] {-1, 8, MIN, MAX}) {
            Check.due("unify(" + s + ", 0)", IAE, x.unify(s, 0));
            Check.due("unify(0, " + s + ")", IAE, x.unify(0, s));
            Check.due("unify(" + s + ", " + s + ")", IAE, x.unify(s, s));
        }
        Check.counts(x, 6, 0, 0);
        Check.due("unify(0, 7)", 0, x.unify(0, 7));
        Check.due("unify(7, 0)", 0, x.unify(7, 0));
        Check.counts(x, 6, 2, 0);
    }

    private static void slotsComeFirst() {
        Desk x = Desk.with();
        x.begin(1, 0);
        for (int s : new int[] {-1, 8, MIN, MAX}) {
            Check.due("unify(0, " + s + "), 0 was never begun", IAE, x.unify(0, s));
            Check.due("unify(" + s + ", 0), 0 was never begun", IAE, x.unify(s, 0));
            Check.due("unify(1, " + s + "), 1 is not whole", IAE, x.unify(1, s));
            Check.due("unify(" + s + ", 1), 1 is not whole", IAE, x.unify(s, 1));
        }
        Check.counts(x, 6, 0, 0);
    }

    private static void notWhole() {
        Desk x = Desk.with(1);
        x.term(0, 1, "v0");
        x.begin(2, 1);
        x.begin(3, 1);
        x.putAll(3, "o1 v0");
        x.begin(4, 1);
        x.putAll(4, "h0");
        for (int s = 1; s <= 4; s++) {
            Check.due("unify(0, " + s + ")", ISE, x.unify(0, s));
            Check.due("unify(" + s + ", 0)", ISE, x.unify(s, 0));
            Check.due("unify(" + s + ", " + s + ")", ISE, x.unify(s, s));
        }
        Check.counts(x, 2, 0, 0, 0, 0, 0, 0);
        x.putAll(4, "v0");
        Check.due("the last variable of a hole makes it whole", 0, x.unify(4, 0));
    }

    private static void otherDepths() {
        Desk x = Desk.with(0);
        for (int d = 0; d <= 6; d++) x.term(d, d, "o0");
        x.term(7, 6, "h0");
        for (int d = 0; d < 6; d++) {
            Check.due("depths " + d + " and " + (d + 1), ISE, x.unify(d, d + 1));
            Check.due("depths " + (d + 1) + " and " + d, ISE, x.unify(d + 1, d));
            Check.due("depths " + d + " and 6, with a hole", ISE, x.unify(d, 7));
        }
        Check.counts(x, 2, 0, 0, 0, 0, 0, 0);
        Check.due("depth 6 and 6", 0, x.unify(6, 7));
    }

    // Without holes

    private static void twoVariables() {
        Desk x = Desk.with();
        Check.due("the same at depth 1", 0, unified(x, 1, "v0", "v0"));
        Check.due("the last at depth 6", 0, unified(x, 6, "v5", "v5"));
        Check.due("others", 1, unified(x, 6, "v5", "v4"));
        Check.due("others", 1, unified(x, 6, "v0", "v5"));
        Check.due("bound ones, the same", 0, unified(x, 0, "o3 o1 v0 v1", "o3 o1 v0 v1"));
        Check.due("two bound at once", 1, unified(x, 0, "o3 v0", "o3 v1"));
        Check.due("a bound one and a free one", 1, unified(x, 1, "o2 v0", "o2 v1"));
        Check.due("variable 11 of 12", 0, unified(x, 6, "o3 o3 o3 v11", "o3 o3 o3 v11"));
        Check.due("variables 11 and 10", 1, unified(x, 6, "o3 o3 o3 v11", "o3 o3 o3 v10"));
    }

    private static void operationsThatDiffer() {
        Desk x = Desk.with();
        Check.due("operation and variable", 1, unified(x, 1, "o0", "v0"));
        Check.due("variable and operation", 1, unified(x, 1, "v0", "o0"));
        Check.due("variable 0 and operation 0", 1, unified(x, 1, "o1 v0 o0", "o1 o0 o0"));
        Check.due("another without arguments", 1, unified(x, 1, "o0", "o5"));
        Check.due("another with such arguments", 1, unified(x, 1, "o1 v0 v0", "o6 v0 v0"));
        Check.due("another that binds another number", 1, unified(x, 1, "o2 v0", "o3 v0"));
        Check.due("the same without arguments", 0, unified(x, 0, "o0", "o0"));
        Check.due("the same with three", 0, unified(x, 0, "o7 o0 v0 v1", "o7 o0 v0 v1"));
        Check.counts(x, 6, 2, 6);
    }

    private static void firstArgumentFirst() {
        Desk x = Desk.with(0);
        Check.due("fault 1 ahead of 2", 1, unified(x, 1, "o1 o0 h0", "o1 o5 v0"));
        Check.due("fault 2 ahead of 1", 2, unified(x, 1, "o1 h0 o0", "o1 v0 o5"));
        Check.due("the second one of three", 2, unified(x, 1, "o4 o0 h0 o0", "o4 o0 v0 o5"));
        Check.due("the third one of three", 1, unified(x, 1, "o4 o0 o0 o0", "o4 o0 o0 v0"));
        Check.due("the second one ahead of the third", 1, unified(x, 1, "o4 o0 o0 h0", "o4 o0 o5 v0"));
        Check.counts(x, 2, 0, 0);
    }

    private static void argumentsAheadOfAllOthers() {
        Desk x = Desk.with(0);
        Check.due("fault 1 in the first, fault 2 behind it", 1,
            unified(x, 1, "o1 o1 o0 o1 o0 o0 h0", "o1 o1 o0 o1 o0 o5 v0"));
        Check.due("fault 2 in the first, fault 1 behind it", 2,
            unified(x, 1, "o1 o1 o0 o1 o0 h0 o0", "o1 o1 o0 o1 o0 v0 o5"));
        Check.due("fault 3 in the first, fault 1 behind it", 3,
            unified(x, 1, "o1 o2 h0 o0", "o1 o2 o2 h0 v0"));
    }

    private static void lastEquation() {
        Desk x = Desk.with(0, 0);
        Check.due("a fault in the last equation", 1,
            unified(x, 0, "o1 h0 o1 h1 o4 o0 o0 o0", "o1 o0 o1 o5 o4 o0 o0 o5"));
        Check.counts(x, 2, 0, 0);
        Check.due("none in the last equation", 0,
            unified(x, 0, "o1 h0 o1 h1 o4 o0 o0 o0", "o1 o0 o1 o5 o4 o0 o0 o0"));
        Check.counts(x, 2, 0, 2);
        Check.due("equations have the fillings of those before", 1, unified(x, 0, "o1 h0 h0", "o1 o0 o5"));
    }

    private static void withItself() {
        Desk x = Desk.with(2, 0);
        x.term(0, 3, "o7 h1 h0 v0 v2 h0 v1 v4");
        Check.due("unify(0, 0)", 0, x.unify(0, 0));
        Check.counts(x, 2, 0, 0, 0, 0, 1, 0);
    }

    // Holes with holes

    private static void sameHoleSameVariables() {
        Desk x = Desk.with(0, 1, 4);
        Check.due("no parameters", 0, unified(x, 6, "h0", "h0"));
        Check.due("one parameter", 0, unified(x, 6, "h1 v5", "h1 v5"));
        Check.due("four parameters", 0, unified(x, 6, "h2 v5 v0 v4 v1", "h2 v5 v0 v4 v1"));
        Check.counts(x, 2, 0, 0);
        Check.due("uses(2)", 15, x.uses(2));
    }

    private static void sameHoleOneDiffers() {
        for (int k = 0; k < 4; k++) {
            Desk x = Desk.with(4);
            String[] v = {"v0", "v1", "v2", "v3"};
            v[k] = "v4";
            Check.due("parameter " + k + " differs", 0, unified(x, 5, "h0 v0 v1 v2 v3", "h0 " + String.join(" ", v)));
            Check.counts(x, 2, 1, 1);
            Check.due("uses(0) without " + k, 15 - (1 << k), x.uses(0));
            Check.due("size(0)", 1, x.size(0));
            Check.due("read", 4, x.read(0));
            Check.due("isSame", 1, x.isSame(0, 1));
        }
    }

    private static void sameHoleAllDiffer() {
        Desk x = Desk.with(4, 1);
        Check.due("turned", 0, unified(x, 4, "h0 v0 v1 v2 v3", "h0 v1 v2 v3 v0"));
        Check.counts(x, 2, 1, 1);
        Check.due("uses(0)", 0, x.uses(0));
        Check.reads(x, 0, "h0");
        Check.due("one parameter", 0, unified(x, 4, "h1 v0", "h1 v1"));
        Check.counts(x, 2, 2, 2);
        Check.due("uses(1)", 0, x.uses(1));
        Check.reads(x, 1, "h0");
    }

    /** The parameters that are kept must stay with their own variables at other places. */
    private static void sameHoleInTheirOrder() {
        Desk x = Desk.with(4);
        Check.due("parameters 0, 1 and 3 stay", 0, unified(x, 6, "h0 v3 v2 v1 v0", "h0 v3 v2 v5 v0"));
        x.term(2, 6, "o1 h0 v3 v2 v1 v0 h0 v0 v1 v2 v3");
        Check.reads(x, 2, "o1 h0 v0 v2 v3 h0 v3 v1 v0");
        Check.due("then parameter 1 goes, too", 0, unified(x, 6, "h0 v0 v1 v2 v3", "h0 v0 v4 v2 v3"));
        Check.reads(x, 2, "o1 h0 v0 v3 h0 v3 v0");
        Check.due("uses(0)", 9, x.uses(0));
        Check.counts(x, 2, 2, 2);
        Check.due("what is gone may differ", 0, unified(x, 6, "h0 v0 v1 v2 v3", "h0 v0 v2 v1 v3"));
        Check.counts(x, 2, 2, 2);
    }

    private static void twoHolesNoneInBoth() {
        Desk x = Desk.with(3, 3);
        Check.due("unify", 0, unified(x, 6, "h0 v0 v1 v2", "h1 v3 v4 v5"));
        Check.counts(x, 2, 1, 2);
        Check.due("uses(0)", 0, x.uses(0));
        Check.due("uses(1)", 0, x.uses(1));
        Check.reads(x, 0, "h0");
        Check.due("isSame", 1, x.isSame(0, 1));
    }

    private static void twoHolesAllInBoth() {
        Desk x = Desk.with(4, 4, 0, 0);
        Check.due("unify", 0, unified(x, 4, "h0 v0 v1 v2 v3", "h1 v3 v2 v1 v0"));
        Check.counts(x, 2, 1, 2);
        Check.due("uses(0)", 15, x.uses(0));
        Check.due("uses(1)", 15, x.uses(1));
        x.term(2, 4, "o1 h0 v0 v1 v2 v3 h1 v0 v1 v2 v3");
        Check.reads(x, 2, "o1 h0 v0 v1 v2 v3 h0 v3 v2 v1 v0");
        Check.due("holes without parameters", 0, unified(x, 0, "h2", "h3"));
        Check.counts(x, 2, 2, 4);
        Check.reads(x, 0, "h0");
        Check.due("isSame", 1, x.isSame(0, 1));
    }

    private static void twoHolesSomeInBoth() {
        Desk x = Desk.with(4, 3, 0);
        Check.due("unify", 0, unified(x, 6, "h0 v5 v0 v3 v1", "h1 v1 v4 v5"));
        Check.due("uses(0)", 9, x.uses(0));
        Check.due("uses(1)", 5, x.uses(1));
        x.term(2, 6, "o1 h0 v0 v1 v2 v3 h1 v0 v1 v2");
        Check.reads(x, 2, "o1 h0 v0 v3 h0 v2 v0");
        Check.due("one has no parameters", 0, unified(x, 6, "h2", "h1 v0 v1 v2"));
        Check.due("uses(0)", 0, x.uses(0));
        Check.counts(x, 2, 2, 4);
    }

    // A hole with another term

    private static void holeAndVariable() {
        int[] of = {5, 3, 1, 0};
        for (int k = 0; k < 4; k++) {
            Desk x = Desk.with(4);
            Check.due("variable of parameter " + k, 0, unified(x, 6, "h0 v5 v3 v1 v0", "v" + of[k]));
            Check.due("uses(0)", 1 << k, x.uses(0));
            Check.due("size(0)", 1, x.size(0));
            Check.counts(x, 2, 0, 1);
            x.empty();
            Check.due("either way", 0, x.unify(1, 0));
            Check.due("uses(0)", 1 << k, x.uses(0));
            Check.counts(x, 2, 0, 1);
            x.term(2, 6, "o3 h0 v0 v3 v6 v7");
            Check.reads(x, 2, "o3 v" + new int[] {0, 3, 6, 7}[k]);
        }
    }

    private static void holeAndForeignVariable() {
        Desk x = Desk.with(2, 0);
        Check.due("not of x", 2, unified(x, 3, "h0 v0 v2", "v1"));
        Check.due("not of x, either way", 2, x.unify(1, 0));
        Check.due("no parameters at all", 2, unified(x, 3, "h1", "v0"));
        Check.due("in the last argument", 2, unified(x, 3, "h0 v0 v2", "o4 v0 v2 v1"));
        Check.counts(x, 2, 0, 0, 0, 0, 0, 4);
        Check.due("no parameters and no variable", 0, unified(x, 3, "h1", "o0"));
        Check.due("uses(1)", 0, x.uses(1));
        Check.due("size(1)", 1, x.size(1));
    }

    private static void boundWithinIsNotFree() {
        Desk x = Desk.with(0);
        Check.due("one bound, variable 0", 0, unified(x, 1, "h0", "o2 v0"));
        x.empty();
        Check.due("one bound, variable 1", 2, unified(x, 1, "h0", "o2 v1"));
        Check.due("two bound, variable 1", 0, unified(x, 1, "h0", "o3 v1"));
        x.empty();
        Check.due("two bound, variable 2", 2, unified(x, 1, "h0", "o3 v2"));
        Check.due("three bound, variable 2", 0, unified(x, 1, "h0", "o3 o2 v2"));
        x.empty();
        Check.due("three bound, variable 3", 2, unified(x, 1, "h0", "o3 o2 v3"));
        Check.due("bound in the argument before", 2, unified(x, 1, "h0", "o1 o2 v0 v0"));
        Check.counts(x, 2, 0, 0);
    }

    private static void boundAboveIsFree() {
        Desk x = Desk.with(0, 1);
        Check.due("bound above the hole", 2, unified(x, 0, "o2 h0", "o2 v0"));
        Check.due("bound above the hole, further in", 2, unified(x, 0, "o2 h0", "o2 o3 v2"));
        Check.due("bound in the term itself", 0, unified(x, 0, "o2 h0", "o2 o3 v1"));
        Check.due("a hole with the variable bound above", 0, unified(x, 0, "o2 h1 v0", "o2 o3 v2"));
        Check.due("uses(1)", 1, x.uses(1));
        Check.due("uses(0)", 0, x.uses(0));
    }

    private static void whatStandsBehindTheTerm() {
        Desk x = Desk.with(0, 0, 1);
        Check.due("a variable behind it", 0, unified(x, 2, "o1 h0 v1", "o1 o0 v1"));
        x.empty();
        Check.due("the hole behind it", 0, unified(x, 2, "o1 h0 h0", "o1 o1 o0 o5 h0"));
        Check.due("size(0)", 3, x.size(0));
        x.empty();
        Check.due("a variable behind it, further out", 0, unified(x, 2, "o4 o2 h0 v0 h1", "o4 o2 o2 v0 v0 o2 v0"));
        Check.due("size(0)", 2, x.size(0));
        Check.due("size(1)", 2, x.size(1));
        x.empty();
        Check.due("another hole behind it keeps its own", 0, unified(x, 2, "o1 h0 h2 v1", "o1 o0 h2 v1"));
        Check.due("uses(2)", 1, x.uses(2));
        Check.counts(x, 2, 0, 1);
    }

    private static void foreignBehindBinders() {
        Desk x = Desk.with(1, 1);
        Check.due("a term with binders", 0, unified(x, 3, "h1 v0", "o3 o3 o1 v0 v4"));
        Check.due("then a variable that is not of x", 2, unified(x, 3, "h0 v0", "v1"));
        Check.due("then a variable that is of x", 0, unified(x, 3, "h0 v1", "v1"));
    }

    /** Hole 1 is a pair of its parameters, hole 2 has it under a binder, hole 3 further to the left. */
    private static Desk withFillings() {
        Desk x = Desk.with(1, 2, 1, 1, 2);
        Check.due("hole 1", 0, unified(x, 4, "h1 v0 v1", "o1 v0 v1"));
        Check.due("hole 2", 0, unified(x, 4, "h2 v3", "o2 h1 v4 v0"));
        Check.due("hole 3", 0, unified(x, 4, "h3 v1", "o1 h2 v1 o0"));
        Check.counts(x, 2, 0, 3);
        return x;
    }

    private static void foreignInFillings() {
        Desk x = withFillings();
        Check.due("the second of a pair", 2, unified(x, 4, "h0 v0", "h1 v0 v1"));
        Check.due("the first of a pair", 2, unified(x, 4, "h0 v1", "h1 v0 v1"));
        Check.due("under a binder", 2, unified(x, 4, "h0 v3", "h2 v2"));
        Check.due("under a binder, bound above", 2, unified(x, 4, "o3 h0 v1", "o3 h2 v0"));
        Check.due("two fillings in", 2, unified(x, 4, "o1 h0 v2 o0", "h3 v1"));
        Check.due("an argument of a filling", 2, unified(x, 4, "o1 o2 h0 v0 o0", "h3 v1"));
        Check.due("the second argument of a filling", 2, unified(x, 4, "o2 o1 v2 h0 v2", "h2 v1"));
        Check.counts(x, 2, 0, 3);
    }

    private static void noneForeignInFillings() {
        Desk x = withFillings();
        Check.due("under a binder", 0, unified(x, 4, "h0 v3", "h2 v3"));
        x.term(2, 4, "h0 v1");
        Check.reads(x, 2, "o2 o1 v2 v0");
        x = withFillings();
        Check.due("under a binder, bound above", 0, unified(x, 4, "o3 h0 v0", "o3 h2 v0"));
        x.term(2, 4, "h0 v1");
        Check.reads(x, 2, "o2 o1 v2 v0");
        x = withFillings();
        Check.due("two fillings in", 0, unified(x, 4, "o1 h0 v2 o0", "h3 v2"));
        x.term(2, 4, "o1 h0 v3 h3 v0");
        Check.reads(x, 2, "o1 o2 o1 v4 v0 o1 o2 o1 v1 v0 o0");
        x = withFillings();
        Check.due("the bound one of a filling", 0, unified(x, 4, "o2 o1 v2 h0 v0", "h2 v1"));
        Check.due("the other one", 0, unified(x, 4, "o2 h4 v0 v3", "h2 v2"));
        x.term(2, 4, "o1 h0 v3 h4 v2 v1");
        Check.reads(x, 2, "o1 v3 o1 v1 v2");
    }

    private static void narrowedInFillings() {
        Desk x = Desk.with(1, 2, 2);
        Check.due("hole 1 has hole 2", 0, unified(x, 4, "h1 v0 v1", "o2 o1 h2 v1 v2 v0"));
        Check.due("hole 0 can't have the second one", 0, unified(x, 4, "h0 v3", "o2 h1 v4 v1"));
        Check.due("uses(2)", 1, x.uses(2));
        Check.due("uses(1)", 1, x.uses(1));
        Check.due("uses(0)", 1, x.uses(0));
        Check.counts(x, 2, 1, 3);
        Check.reads(x, 0, "o2 o2 o1 h0 v5 v0");
        Check.due("isSame", 1, x.isSame(0, 1));
    }

    private static void holeWithinItself() {
        Desk x = Desk.with(1, 1, 1);
        Check.due("as the only argument", 3, unified(x, 2, "h0 v0", "o2 h0 v1"));
        Check.due("either way", 3, x.unify(1, 0));
        Check.due("with its own variable", 3, unified(x, 2, "h0 v0", "o2 h0 v0"));
        Check.due("with a variable that is not of x", 3, unified(x, 2, "h0 v0", "o2 h0 v2"));
        Check.due("in the last argument", 3, unified(x, 2, "h0 v0", "o4 o0 o0 o1 o0 h0 v0"));
        Check.due("another one has it", 0, unified(x, 2, "h1 v0", "o2 h0 v1"));
        Check.due("by what fills another one", 3, unified(x, 2, "h0 v0", "o2 h1 v1"));
        Check.due("by what fills it, the same again", 0, unified(x, 2, "h1 v0", "o2 h0 v1"));
        Check.due("a third one has that", 0, unified(x, 2, "h2 v0", "o2 h1 v1"));
        Check.due("by what fills both", 3, unified(x, 2, "h0 v0", "o2 h2 v1"));
        Check.counts(x, 2, 0, 2);
    }

    private static void fromTheLeft() {
        Desk x = Desk.with(1);
        Check.due("the variable first", 2, unified(x, 2, "h0 v0", "o1 v1 h0 v0"));
        Check.due("the hole first", 3, unified(x, 2, "h0 v0", "o1 h0 v0 v1"));
        Check.due("the variable first, further in", 2, unified(x, 2, "h0 v0", "o1 o2 o1 v0 v2 h0 v0"));
        Check.due("the hole first, further in", 3, unified(x, 2, "h0 v0", "o1 o2 o1 v0 h0 v2 v1"));
        Check.counts(x, 2, 0, 0);
    }

    private static void anotherHoleKeepsAll() {
        Desk x = Desk.with(2, 2, 0);
        Check.due("all of x", 0, unified(x, 3, "h0 v0 v2", "o1 h1 v2 v0 h2"));
        Check.counts(x, 2, 0, 1);
        Check.due("uses(1)", 3, x.uses(1));
        Check.due("uses(0)", 3, x.uses(0));
        Check.due("size(0)", 3, x.size(0));
        x.empty();
        Check.due("bound within", 0, unified(x, 3, "h0 v0 v2", "o3 h1 v0 v1"));
        Check.counts(x, 2, 0, 1);
        Check.due("uses(1)", 3, x.uses(1));
        Check.due("uses(0)", 0, x.uses(0));
    }

    private static void anotherHoleLosesSome() {
        for (int k = 0; k < 4; k++) {
            Desk x = Desk.with(3, 4);
            String[] v = {"v1", "v2", "v3", "v0"};
            v[k] = "v4";
            Check.due("parameter " + k + " is not of x", 0,
                unified(x, 4, "h0 v0 v1 v2", "o2 h1 " + String.join(" ", v)));
            Check.counts(x, 2, 1, 2);
            Check.due("uses(1)", 15 - (1 << k), x.uses(1));
            Check.due("uses(0)", k == 3 ? 7 : 7 - (1 << k), x.uses(0));
            Check.due("isSame", 1, x.isSame(0, 1));
        }
    }

    private static void anotherHoleLosesAll() {
        Desk x = Desk.with(0, 4);
        Check.due("none is of x", 0, unified(x, 4, "h0", "o2 h1 v1 v2 v3 v4"));
        Check.counts(x, 2, 1, 2);
        Check.due("uses(1)", 0, x.uses(1));
        Check.reads(x, 0, "o2 h0");
        Check.reads(x, 1, "o2 h0");
    }

    private static void thatGoesOn() {
        Desk x = Desk.with(1, 4);
        Check.due("one goes at each place", 0,
            unified(x, 5, "h0 v0", "o3 o4 h1 v3 v0 v1 v2 h1 v0 v3 v1 v2 h1 v0 v1 v3 v2"));
        Check.counts(x, 2, 3, 4);
        Check.due("uses(1)", 8, x.uses(1));
        Check.reads(x, 0, "o3 o4 h0 v2 h0 v2 h0 v2");
        Check.due("isSame", 1, x.isSame(0, 1));
        x.empty();
        Check.due("the first place already takes what is behind it", 0,
            unified(x, 5, "h0 v0", "o3 o1 h1 v3 v4 v1 v2 h1 v3 v4 v1 v2"));
        Check.counts(x, 2, 1, 2);
        Check.due("uses(1)", 12, x.uses(1));
        Check.due("uses(0)", 1, x.uses(0));
    }

    /** What is narrowed at a later place must be missing at the earlier ones, too. */
    private static void narrowedBehind() {
        Desk x = Desk.with(2, 2);
        Check.due("unify", 0, unified(x, 3, "h0 v0 v1", "o1 h1 v0 v1 h1 v1 v2"));
        Check.due("uses(1)", 1, x.uses(1));
        Check.reads(x, 0, "o1 h0 v0 h0 v1");
        Check.due("uses(0)", 3, x.uses(0));
        Check.due("size(0)", 3, x.size(0));
    }

    // Sizes

    private static void sizeEighty() {
        Desk x = Desk.with(0, 0, 0);
        Check.due("26", 0, unified(x, 0, "h0", "o2 " + closed(25)));
        Check.due("80", 0, unified(x, 0, "h1", "o2 o4 h0 h0 h0"));
        Check.due("size(1)", 80, x.size(1));
        Check.due("81", 4, unified(x, 0, "h2", "o2 o2 o4 h0 h0 h0"));
        Check.due("81, either way", 4, x.unify(1, 0));
        Check.due("81", 4, unified(x, 0, "h2", "o2 h1"));
        Check.due("size(2)", 1, x.size(2));
        Check.counts(x, 2, 0, 2, 0, 0, 2, 3);
        Check.due("80 again", 0, unified(x, 0, "h2", "h1"));
        Check.due("size(2)", 80, x.size(2));
    }

    private static void sizeOfAnyHole() {
        Desk x = Desk.with(0, 0, 0);
        Check.due("h0 has h1 three times", 0, unified(x, 0, "h0", "o2 o4 h1 h1 h1"));
        Check.due("27 would make 83", 4, unified(x, 0, "h1", closed(27)));
        Check.due("size(0)", 5, x.size(0));
        Check.due("size(1)", 1, x.size(1));
        Check.due("h2 has h0", 0, unified(x, 0, "h2", "o2 h0"));
        Check.due("26 would make 80, and 81 of h2", 4, unified(x, 0, "h1", "o2 " + closed(25)));
        Check.due("25 makes 77, and 78 of h2", 0, unified(x, 0, "h1", closed(25)));
        Check.due("size(0)", 77, x.size(0));
        Check.due("size(2)", 78, x.size(2));
        x.empty();
        Check.due("h0 has h1 three times", 0, unified(x, 0, "h0", "o2 o4 h1 h1 h1"));
        Check.due("26 makes 80", 0, unified(x, 0, "h1", "o2 " + closed(25)));
        Check.due("size(0)", 80, x.size(0));
    }

    private static void sizeByANewHole() {
        Desk x = Desk.with(0, 0, 0);
        Check.due("h0 has both", 0, unified(x, 0, "h0", "o2 o4 h1 h2 h1"));
        Check.due("both are one", 0, unified(x, 0, "h1", "h2"));
        Check.due("27 would make 83", 4, unified(x, 0, "h2", closed(27)));
        Check.counts(x, 2, 1, 3);
        Check.due("26 makes 80", 0, unified(x, 0, "h2", "o2 " + closed(25)));
        Check.due("size(0)", 80, x.size(0));
        Check.due("size(1)", 26, x.size(1));
        Check.counts(x, 2, 1, 4);
    }

    private static void sizeWithoutVariablesOfHoles() {
        Desk x = Desk.with(4, 4, 4);
        String open = "h2 v0 v1 v2 v3 ";
        String under = "h2 v1 v2 v3 v4 ";
        Check.due("19 open holes", 0, unified(x, 4, "h0 v0 v1 v2 v3", times(9, "o4") + times(19, open)));
        Check.due("size(0)", 28, x.size(0));
        x.empty();
        Check.due("13 open holes", 0, unified(x, 4, "h0 v0 v1 v2 v3", "o2 " + times(12, "o1") + times(13, under)));
        Check.due("size(0)", 26, x.size(0));
        Check.due("80", 0, unified(x, 4, "h1 v0 v1 v2 v3",
            "o2 o4 h0 v1 v2 v3 v4 h0 v1 v2 v3 v4 h0 v4 v3 v2 v1"));
        Check.due("size(1)", 80, x.size(1));
        Check.due("the last hole can't have two items", 4, unified(x, 4, "h2 v0 v1 v2 v3", "o2 v0"));
        Check.due("but one", 0, unified(x, 4, "h2 v0 v1 v2 v3", "v3"));
        Check.due("size(1)", 80, x.size(1));
    }

    private static void sizeComesBehindTheGoingThrough() {
        Desk x = Desk.with(0, 0, 0);
        Check.due("26", 0, unified(x, 1, "h0", "o2 " + closed(25)));
        Check.due("a variable behind 80 others", 2, unified(x, 1, "h1", "o1 o4 h0 h0 h0 o1 o0 v0"));
        Check.due("the hole behind 80 others", 3, unified(x, 1, "h1", "o1 o4 h0 h0 h0 o1 o0 h1"));
        Check.due("ahead of the equations behind it", 4, unified(x, 1, "o1 h1 o0", "o1 o1 o4 h0 h0 h0 o0 o5"));
        Check.due("behind the equations ahead of it", 1, unified(x, 1, "o1 o0 h1", "o1 o5 o1 o4 h0 h0 h0 o0"));
        Check.counts(x, 2, 0, 1);
    }

    private static void termsMayBeLarger() {
        Desk x = Desk.with(0, 0);
        Check.due("26", 0, unified(x, 0, "h0", "o2 " + closed(25)));
        Check.due("80", 0, unified(x, 0, "h1", "o2 o4 h0 h0 h0"));
        Check.due("two terms of 189", 0, unified(x, 0, "o4 h1 h1 o1 h0 o0", "o4 h1 h1 o1 h0 o0"));
        Check.due("read", 189, x.read(0));
        Check.due("with another end", 1, unified(x, 0, "o4 h1 h1 o1 h0 o0", "o4 h1 h1 o1 h0 o5"));
    }

    // How many holes

    /**
     * 300 can't be reached, for each new hole leaves fewer open holes and parameters; this is nearly
     * the most: 22 holes lose four parameters one by one, and then all become one.
     */
    private static void newHoles() {
        Desk x = Desk.with(4, 4, 4, 4, 4, 4, 4, 4, 4, 4, 4, 4, 4, 4, 4, 4, 4, 4, 4, 4, 4, 4, 4, 4);
        String v = " v0 v1 v2 v3 ";
        StringBuilder first = new StringBuilder(times(9, "o4"));
        StringBuilder turned = new StringBuilder(times(9, "o4"));
        for (int h = 0; h < 18; h++) {
            first.append("h").append(h).append(v);
            turned.append("h").append(h + 1).append(v);
        }
        x.term(0, 5, "h22" + v);
        x.term(1, 5, "o1 h18" + v + "o4 h19" + v + "h20" + v + "h21" + v);
        Check.due("h22 has four", 0, x.unify(0, 1));
        x.term(2, 5, "h23" + v);
        x.term(3, 5, first + "h22" + v);
        Check.due("h23 has all", 0, x.unify(2, 3));
        Check.counts(x, 2, 0, 2);
        for (int k = 0; k < 4; k++) {
            x.term(4, 5, ("h23" + v).replace("v" + k, "v4"));
            Check.due("all lose one", 0, x.unify(2, 4));
            Check.counts(x, 2, 22 * (k + 1), 2 + 22 * (k + 1));
        }
        Check.due("h23 has no parameter left", 0, x.uses(23));
        x.term(5, 5, turned + "h22" + v);
        Check.due("each becomes one with the next", 0, x.unify(3, 5));
        Check.counts(x, 2, 88 + 18, 2 + 88 + 36);
        x.term(6, 5, "o1 h19" + v + "o4 h20" + v + "h21" + v + "h21" + v);
        Check.due("the last ones, too", 0, x.unify(0, 6));
        Check.counts(x, 2, 88 + 21, 2 + 88 + 42);
        Check.due("a clash", 1, x.unify(2, 6));
        Check.counts(x, 2, 88 + 21, 2 + 88 + 42);
        Check.due("read", 9 + 18 + 6, x.read(3));
        Check.counts(x, 4, 33, 1);
        Check.due("empty()", 24, x.empty());
        Check.counts(x, 2, 0, 0);
    }

    // With a fault nothing is changed

    private static void faultIsKept(int fault, String a, String b) {
        Desk x = Desk.with(0, 0, 2, 2, 1, 0);
        Check.due("26", 0, unified(x, 2, "h0", "o2 " + closed(25)));
        x.term(2, 2, "h2 v0 v1");
        x.term(3, 2, "h2 v0 v1");
        x.term(4, 2, "o4 h2 v0 v1 h3 v0 v1 h4 v0");
        x.term(0, 2, a);
        x.term(1, 2, b);
        Check.due("read", 9, x.read(4));
        String before = x.state(6);
        Check.due("unify", fault, x.unify(0, 1));
        Check.due("the state", before, x.state(6));
        Check.due("count(7)", 1, x.count(7));
        Check.due("what was read", "o4 h0 v0 v1 h1 v0 v1 h2 v0", x.textOfRead(9));
        Check.reads(x, 4, "o4 h0 v0 v1 h1 v0 v1 h2 v0");
        Check.due("the other way", fault, x.unify(1, 0));
        Check.due("isSame", 1, x.isSame(2, 3));
        Check.due("the same first half without a fault", 0, x.unify(2, 3));
        Check.counts(x, 2, 0, 1, 9, 3, 2, 2);
    }

    /** Ahead of each fault there are a joining, a narrowing and a filling, all of which must go. */
    private static void faultChangesNothing(int fault, String a, String b) {
        faultIsKept(fault, "o4 h2 v0 v1 h4 v0 o1 h1 " + a, "o4 h3 v1 v0 h4 v1 o1 o0 " + b);
    }

    private static void fault1() {
        faultChangesNothing(1, "o0", "o5");
    }

    private static void fault2() {
        faultChangesNothing(2, "h5", "o1 h3 v0 v1 v0");
    }

    private static void fault3() {
        faultChangesNothing(3, "h5", "o1 h3 v0 v1 h5");
    }

    private static void fault4() {
        faultChangesNothing(4, "h5", "o1 o4 h0 h0 h0 o1 h3 v0 v1 o0");
    }

    public static void main(String[] args) {
        Check.edge(6, "IllegalArgumentException when there is no such slot", UnifyingEdgesTest::slots);
        Check.edge(6, "ahead of that", UnifyingEdgesTest::slotsComeFirst);
        Check.edge(6, "IllegalStateException when one of them is not whole", UnifyingEdgesTest::notWhole);
        Check.edge(6, "or they have other depths", UnifyingEdgesTest::otherDepths);
        Check.edge(6, "Two variables: they must be the same one, else fault 1", UnifyingEdgesTest::twoVariables);
        Check.edge(6, "An operation and a variable, or another one: fault 1", UnifyingEdgesTest::operationsThatDiffer);
        Check.edge(6, "equations of its arguments, the first one first", UnifyingEdgesTest::firstArgumentFirst);
        Check.edge(6, "come ahead of all others", UnifyingEdgesTest::argumentsAheadOfAllOthers);
        Check.edge(6, "as long as there is one", UnifyingEdgesTest::lastEquation);
        Check.edge(6, "a slot with itself", UnifyingEdgesTest::withItself);
        Check.edge(6, "The same hole, they differ nowhere", UnifyingEdgesTest::sameHoleSameVariables);
        Check.edge(6, "The same hole, they differ anywhere", UnifyingEdgesTest::sameHoleOneDiffers);
        Check.edge(6, "The same hole, they differ everywhere", UnifyingEdgesTest::sameHoleAllDiffer);
        Check.edge(6, "those of its parameters, in their order", UnifyingEdgesTest::sameHoleInTheirOrder);
        Check.edge(6, "Two holes, no variable in both", UnifyingEdgesTest::twoHolesNoneInBoth);
        Check.edge(6, "Two holes, all variables in both", UnifyingEdgesTest::twoHolesAllInBoth);
        Check.edge(6, "Two holes, some variables in both", UnifyingEdgesTest::twoHolesSomeInBoth);
        Check.edge(6, "A hole and another term, either way", UnifyingEdgesTest::holeAndVariable);
        Check.edge(6, "free in t and not one of x: fault 2", UnifyingEdgesTest::holeAndForeignVariable);
        Check.edge(6, "those that are not bound within are free", UnifyingEdgesTest::boundWithinIsNotFree);
        Check.edge(6, "those that are bound above t are free in t", UnifyingEdgesTest::boundAboveIsFree);
        Check.edge(6, "t is gone through, and nothing behind it", UnifyingEdgesTest::whatStandsBehindTheTerm);
        Check.edge(6, "fault 2, behind a term with binders", UnifyingEdgesTest::foreignBehindBinders);
        Check.edge(6, "fault 2 in what fills holes of t", UnifyingEdgesTest::foreignInFillings);
        Check.edge(6, "no fault 2 in what fills holes of t", UnifyingEdgesTest::noneForeignInFillings);
        Check.edge(6, "another hole in what fills holes of t", UnifyingEdgesTest::narrowedInFillings);
        Check.edge(6, "h: fault 3", UnifyingEdgesTest::holeWithinItself);
        Check.edge(6, "from the left to the right", UnifyingEdgesTest::fromTheLeft);
        Check.edge(6, "another hole, none of whose variables is foreign", UnifyingEdgesTest::anotherHoleKeepsAll);
        Check.edge(6, "filled with a new hole of its other parameters", UnifyingEdgesTest::anotherHoleLosesSome);
        Check.edge(6, "a new hole without parameters", UnifyingEdgesTest::anotherHoleLosesAll);
        Check.edge(6, "and that goes on, without them", UnifyingEdgesTest::thatGoesOn);
        Check.edge(6, "Then h is filled with t", UnifyingEdgesTest::narrowedBehind);
        Check.edge(6, "a size above 80 then: fault 4", UnifyingEdgesTest::sizeEighty);
        Check.edge(6, "any hole has a size above 80", UnifyingEdgesTest::sizeOfAnyHole);
        Check.edge(6, "any hole, with all fillings", UnifyingEdgesTest::sizeByANewHole);
        Check.edge(6, "size: without the variables of holes", UnifyingEdgesTest::sizeWithoutVariablesOfHoles);
        Check.edge(6, "then: fault 4", UnifyingEdgesTest::sizeComesBehindTheGoingThrough);
        Check.edge(6, "any hole, not any term, above 80", UnifyingEdgesTest::termsMayBeLarger);
        Check.edge(6, "A new hole when there are 300: fault 5", UnifyingEdgesTest::newHoles);
        Check.edge(6, "With a fault nothing is changed: 1", UnifyingEdgesTest::fault1);
        Check.edge(6, "With a fault nothing is changed: 2", UnifyingEdgesTest::fault2);
        Check.edge(6, "With a fault nothing is changed: 3", UnifyingEdgesTest::fault3);
        Check.edge(6, "With a fault nothing is changed: 4", UnifyingEdgesTest::fault4);
        Check.end();
    }
}
