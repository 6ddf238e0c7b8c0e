/** Promises 7 to 13: one test for each sentence that names a boundary case. */
public final class ReadingEdgesTest {
    private static final int IAE = Desk.IAE;
    private static final int ISE = Desk.ISE;
    private static final int IOOBE = Desk.IOOBE;
    private static final int NONE = -1;
    private static final int MIN = Integer.MIN_VALUE;
    private static final int MAX = Integer.MAX_VALUE;
    private static final int[] NO_SLOTS = {-1, 8, MIN, MAX};

    private static String times(int n, String items) {
        return (items + " ").repeat(n);
    }

    private static int unified(Desk x, int depth, String a, String b) {
        x.term(0, depth, a);
        x.term(1, depth, b);
        return x.unify(0, 1);
    }

    // Promise 7: read

    private static void howManyItems() {
        Desk x = Desk.with(0, 1, 4);
        x.term(0, 6, "o0");
        x.term(1, 6, "v5");
        x.term(2, 6, "h0");
        x.term(3, 6, "h1 v5");
        x.term(4, 6, "h2 v5 v4 v3 v2");
        x.term(5, 6, "o1 h2 v5 v4 v3 v2 h1 v0");
        int[] want = {1, 1, 1, 2, 5, 8};
        for (int s = 0; s < want.length; s++) {
            Check.due("read(" + s + ")", want[s], x.read(s));
            Check.due("count(4)", want[s], x.count(4));
        }
    }

    private static void slotsOfRead() {
        Desk x = Desk.with();
        for (int s = 0; s < 8; s++) x.term(s, 0, "o0");
        for (int s : NO_SLOTS) Check.due("read(" + s + ")", IAE, x.read(s));
        Check.due("read(0)", 1, x.read(0));
        Check.due("read(7)", 1, x.read(7));
    }

    private static void readOfWhatIsNotWhole() {
        Desk x = Desk.with(2);
        Check.due("never begun", ISE, x.read(0));
        x.begin(0, 2);
        Check.due("just begun", ISE, x.read(0));
        x.put(0, "o1");
        Check.due("arguments are due", ISE, x.read(0));
        x.putAll(0, "v0 h0");
        Check.due("variables of a hole are due", ISE, x.read(0));
        x.put(0, "v0");
        Check.due("one variable of a hole is due", ISE, x.read(0));
        x.put(0, "v1");
        Check.due("whole", 5, x.read(0));
    }

    private static void readThatIsRefused() {
        Desk x = Desk.with(1);
        x.term(0, 2, "o1 h0 v1 o0");
        x.begin(1, 2);
        Check.due("read(0)", 4, x.read(0));
        Check.due("read(8)", IAE, x.read(8));
        Check.due("read(1)", ISE, x.read(1));
        Check.due("read(2)", ISE, x.read(2));
        Check.counts(x, 4, 4, 1);
        Check.due("what was read", "o1 h0 v1 o0", x.textOfRead(4));
    }

    private static void numberedAnew() {
        Desk x = Desk.with(0, 0, 0, 0);
        x.term(0, 0, "o4 h3 h1 o4 h3 h2 h1");
        Check.reads(x, 0, "o4 h0 h1 o4 h0 h2 h1");
        x.term(1, 0, "o1 h2 h3");
        Check.reads(x, 1, "o1 h0 h1");
        Check.reads(x, 0, "o4 h0 h1 o4 h0 h2 h1");
        x.term(2, 0, "h3");
        x.term(3, 0, "o0");
        Check.due("unify", 0, x.unify(2, 3));
        Check.reads(x, 0, "o4 o0 h0 o4 o0 h1 h0");
        x.term(2, 0, "h1");
        x.term(3, 0, "o1 h2 h0");
        Check.due("unify", 0, x.unify(2, 3));
        Check.reads(x, 0, "o4 o0 o1 h0 h1 o4 o0 h0 o1 h0 h1");
    }

    private static void nineteenOpenHoles() {
        Desk x = Desk.with(0, 0, 0, 0, 0, 0, 0, 0, 0, 0, 0, 0, 0, 0, 0, 0, 0, 0, 0, 0, 0, 0, 0, 0);
        StringBuilder put = new StringBuilder(times(9, "o4"));
        StringBuilder due = new StringBuilder(times(9, "o4").trim());
        for (int i = 0; i < 19; i++) {
            put.append("h").append(23 - i).append(' ');
            due.append(" h").append(i);
        }
        x.term(0, 0, put.toString());
        Check.reads(x, 0, due.toString());
        Check.counts(x, 4, 28, 19);
        Check.due("item(27)", 4 * 18 + 2, x.item(27));
    }

    private static void inTheOrderThatRises() {
        Desk x = Desk.with(4, 2, 1, 3);
        x.term(0, 6, "h0 v5 v3 v2 v0");
        Check.reads(x, 0, "h0 v0 v2 v3 v5");
        x.term(1, 6, "o4 h0 v2 v5 v0 v3 h0 v0 v1 v2 v3 h0 v3 v2 v1 v0");
        Check.reads(x, 1, "o4 h0 v0 v2 v3 v5 h0 v2 v0 v3 v1 h0 v1 v3 v0 v2");
        x.term(2, 6, "o1 h1 v4 v1 h1 v1 v4");
        Check.reads(x, 2, "o1 h0 v1 v4 h0 v4 v1");
        x.term(3, 6, "o3 o1 h3 v7 v0 v6 h2 v1");
        Check.reads(x, 3, "o3 o1 h0 v0 v6 v7 h1 v1");
        x.term(4, 6, "o4 h1 v0 v1 h1 v1 v0 h3 v2 v1 v0");
        Check.reads(x, 4, "o4 h0 v0 v1 h0 v1 v0 h1 v0 v1 v2");
    }

    /** The order is that of the first place in this reading, not that of an earlier one. */
    private static void orderOfEachReading() {
        Desk x = Desk.with(2);
        x.term(0, 2, "o1 h0 v1 v0 h0 v0 v1");
        x.term(1, 2, "o1 h0 v0 v1 h0 v1 v0");
        for (int round = 0; round < 2; round++) {
            Check.reads(x, 0, "o1 h0 v0 v1 h0 v1 v0");
            Check.reads(x, 1, "o1 h0 v0 v1 h0 v1 v0");
        }
    }

    /** Each hole brings ten bound ones more; the last one is only a variable. */
    private static void asFarAsFillingsGo() {
        int holes = 15;
        Desk x = Desk.with(1, 1, 1, 1, 1, 1, 1, 1, 1, 1, 1, 1, 1, 1, 1);
        for (int h = 0; h < holes - 1; h++) {
            Check.due("hole " + h, 0, unified(x, 1, "h" + h + " v0", "o3 o3 o3 o3 o3 h" + (h + 1) + " v10"));
        }
        Check.due("the last one", 0, unified(x, 1, "h" + (holes - 1) + " v0", "v0"));
        Check.due("size(0)", 71, x.size(0));
        Check.due("uses(0)", 1, x.uses(0));
        x.term(2, 6, "o3 o3 o3 h0 v11");
        Check.reads(x, 2, times(73, "o3") + "v151");
    }

    /**
     * Each hole loses its two parameters one by one and then has the next one: 66 fillings stand one
     * within the other. There is only one operation, which binds two, for calls are few.
     */
    private static void alongManyFillings() {
        Desk x = new Desk();
        x.operation(2, -1, -1);
        for (int h = 0; h < 23; h++) x.hole(2);
        for (int h = 0; h < 22; h++) {
            Check.due("hole " + h + " loses one", 0, unified(x, 3, "h" + h + " v0 v1", "h" + h + " v2 v1"));
            x.term(1, 3, "h" + h + " v0 v2");
            Check.due("hole " + h + " loses the other", 0, x.unify(0, 1));
            x.term(1, 3, "o0 h" + (h + 1) + " v1 v0");
            Check.due("hole " + h + " has the next one", 0, x.unify(0, 1));
        }
        x.term(0, 3, "h0 v0 v1");
        Check.reads(x, 0, times(22, "o0") + "h0 v0 v1");
    }

    /** 19 times 80 items, in which 51 holes have four variables each. */
    private static void theLargest() {
        Desk x = Desk.with(4, 4, 4, 4, 4);
        String under = "h4 v2 v3 v4 v5 ";
        Check.due("26 items", 0, unified(x, 4, "h0 v0 v1 v2 v3", "o3 " + times(8, "o4") + times(17, under)));
        Check.due("size(0)", 26, x.size(0));
        Check.due("80 items", 0, unified(x, 4, "h1 v0 v1 v2 v3", "o2 o4" + times(3, " h0 v1 v2 v3 v4")));
        Check.due("size(1)", 80, x.size(1));
        x.term(2, 4, "o2 o2 " + times(9, "o4") + times(19, "h1 v5 v4 v3 v2"));
        int items = 11 + 19 * (80 + 4 * 51);
        Check.due("read", items, x.read(2));
        Check.counts(x, 4, items, 1);
        Check.due("item behind the last one", IOOBE, x.item(items));
        String of26 = "o3 " + times(8, "o4") + times(17, "h0 v5 v6 v7 v8");
        String[] all = (times(2, "o2") + times(9, "o4") + times(19, "o2 o4 " + times(3, of26))).trim().split(" +");
        for (int i = 0; i < items; i += 41) itemIs(x, i, all[i]);
        for (int i = 128; i < items; i *= 2) {
            for (int near = i - 1; near <= i + 1; near++) itemIs(x, near, all[near]);
        }
        for (int i = items - 40; i < items; i++) itemIs(x, i, all[i]);
    }

    private static void itemIs(Desk x, int i, String item) {
        Check.due("item(" + i + ")", 4 * Integer.parseInt(item.substring(1)) + "voh".indexOf(item.charAt(0)), x.item(i));
    }

    // Promise 8: item

    private static void itemBeforeAnyReading() {
        Desk x = Desk.with();
        for (int i : new int[] {0, -1, 1, MIN, MAX}) Check.due("item(" + i + ")", IOOBE, x.item(i));
        x.term(0, 0, "o0");
        Check.due("item(0) of what is not read", IOOBE, x.item(0));
        x.unify(0, 0);
        x.isSame(0, 0);
        Check.due("item(0) of what is not read", IOOBE, x.item(0));
        x.read(0);
        Check.due("item(0)", 1, x.item(0));
    }

    private static void itemsThatThereAre() {
        Desk x = Desk.with(1);
        x.term(0, 1, "o1 v0 h0 v0");
        x.read(0);
        for (int i : new int[] {-1, 4, 5, MIN, MAX}) Check.due("item(" + i + ")", IOOBE, x.item(i));
        Check.due("item(0)", 5, x.item(0));
        Check.due("item(3)", 0, x.item(3));
        x.term(1, 1, "v0");
        x.read(1);
        Check.due("item(0) of one", 0, x.item(0));
        for (int i = 1; i < 5; i++) Check.due("item(" + i + ") of one", IOOBE, x.item(i));
    }

    private static void numberAndSort() {
        Desk x = new Desk();
        for (int f = 0; f < 15; f++) x.operation(2, -1, -1);
        x.operation(0, 0, 0);
        x.hole(1);
        x.hole(0);
        x.term(0, 6, "o14 o0 o1 o15 v11 h1 h0 v10");
        x.read(0);
        int[] want = {57, 1, 5, 61, 44, 2, 6, 40};
        for (int i = 0; i < want.length; i++) Check.due("item(" + i + ")", want[i], x.item(i));
    }

    private static void readLatest() {
        Desk x = Desk.with(1, 0);
        x.term(0, 1, "o1 h0 v0 h1");
        x.term(1, 1, "o1 v0 o0");
        x.read(1);
        x.read(0);
        String read = "o1 h0 v0 h1";
        Check.due("unify", 0, x.unify(0, 1));
        Check.due("behind unify", read, x.textOfRead(4));
        Check.due("isSame", 1, x.isSame(0, 1));
        Check.due("behind isSame", read, x.textOfRead(4));
        x.begin(0, 0);
        Check.due("behind begin", read, x.textOfRead(4));
        x.put(0, "o0");
        Check.due("behind put", read, x.textOfRead(4));
        x.empty();
        Check.due("behind empty", read, x.textOfRead(4));
        Check.counts(x, 4, 4, 2);
        Check.due("item(4)", IOOBE, x.item(4));
    }

    // Promise 9: isSame

    private static void isSameThrows() {
        Desk x = Desk.with(1);
        x.term(0, 1, "v0");
        x.term(1, 2, "v0");
        x.begin(2, 1);
        x.begin(3, 1);
        x.put(3, "h0");
        for (int s : NO_SLOTS) {
            Check.due("isSame(0, " + s + ")", IAE, x.isSame(0, s));
            Check.due("isSame(" + s + ", 0)", IAE, x.isSame(s, 0));
            Check.due("isSame(2, " + s + "), ahead of not whole", IAE, x.isSame(2, s));
            Check.due("isSame(" + s + ", 4), ahead of never begun", IAE, x.isSame(s, 4));
        }
        for (int s = 1; s < 5; s++) {
            Check.due("isSame(0, " + s + ")", ISE, x.isSame(0, s));
            Check.due("isSame(" + s + ", 0)", ISE, x.isSame(s, 0));
        }
        Check.due("isSame(2, 2)", ISE, x.isSame(2, 2));
        Check.due("isSame(0, 0)", 1, x.isSame(0, 0));
    }

    private static void isSameOfOtherDepths() {
        Desk x = Desk.with();
        for (int d = 0; d <= 6; d++) x.term(d, d, "o0");
        for (int d = 0; d < 6; d++) Check.due("isSame of other depths", ISE, x.isSame(d, d + 1));
        x.term(7, 6, "o0");
        Check.due("isSame of depth 6", 1, x.isSame(6, 7));
    }

    private static void whetherTheyAreTheSame() {
        Desk x = Desk.with(2, 2, 0, 0);
        String[] all = {"o4 h0 v0 v1 v1 h2", "o4 h0 v1 v0 v1 h2", "o4 h1 v0 v1 v1 h2", "o4 h0 v0 v1 v0 h2",
            "o4 h0 v0 v1 v1 h3", "o4 h0 v0 v1 v1 o0", "o4 h0 v0 v1 o1 v1 v1 h2", "v0"};
        for (int s = 0; s < 8; s++) x.term(s, 2, all[s]);
        for (int a = 0; a < 8; a++) {
            for (int b = 0; b < 8; b++) Check.due("isSame(" + a + ", " + b + ")", a == b ? 1 : 0, x.isSame(a, b));
        }
        x.term(7, 2, all[0]);
        Check.due("the same in another slot", 1, x.isSame(0, 7));
        x.term(1, 2, "o0");
        x.term(2, 2, "o5");
        Check.due("operations", 0, x.isSame(1, 2));
    }

    private static void oneVariableDiffers() {
        Desk x = Desk.with(4);
        x.term(0, 5, "h0 v0 v1 v2 v3");
        for (int k = 0; k < 4; k++) {
            x.term(1, 5, "h0 v0 v1 v2 v3".replace("v" + k, "v4"));
            Check.due("variable " + k + " is another one", 0, x.isSame(0, 1));
            Check.due("variable " + k + " is another one", 0, x.isSame(1, 0));
        }
        x.term(1, 5, "h0 v0 v1 v2 v3");
        Check.due("none is another one", 1, x.isSame(0, 1));
    }

    private static void isSameChangesNothing() {
        Desk x = Desk.with(1, 1);
        x.term(0, 1, "h0 v0");
        x.term(1, 1, "h1 v0");
        x.term(2, 1, "o0");
        Check.due("two open holes", 0, x.isSame(0, 1));
        Check.due("an open hole and a term", 0, x.isSame(0, 2));
        Check.counts(x, 2, 0, 0, 0, 0, 0, 0);
    }

    private static void sameWithAllFillings() {
        Desk x = Desk.with(2, 2);
        x.term(0, 3, "h0 v0 v1");
        x.term(1, 3, "h0 v0 v2");
        x.term(2, 3, "h1 v1 v0");
        x.term(3, 3, "o1 v0 v0");
        Check.due("other variables", 0, x.isSame(0, 1));
        x.unify(0, 1);
        Check.due("what differed is gone", 1, x.isSame(0, 1));
        Check.due("another hole", 0, x.isSame(0, 2));
        x.unify(1, 2);
        Check.due("the same new hole", 1, x.isSame(0, 2));
        Check.due("an open hole and a term", 0, x.isSame(0, 3));
        x.unify(2, 3);
        for (int s = 0; s < 3; s++) Check.due("filled", 1, x.isSame(s, 3));
        x.empty();
        for (int s = 0; s < 3; s++) Check.due("not filled", 0, x.isSame(s, 3));
        Check.due("not filled", 0, x.isSame(0, 1));
    }

    // Promise 10: size, and 11: uses

    private static void holesOfSize() {
        Desk x = Desk.with();
        Check.due("size(0) when none was told", IAE, x.size(0));
        x.hole(0);
        for (int h : new int[] {-1, 1, 24, MIN, MAX}) Check.due("size(" + h + ")", IAE, x.size(h));
        Check.due("size(0)", 1, x.size(0));
        for (int h = 1; h < 24; h++) x.hole(0);
        Check.due("size(23)", 1, x.size(23));
        Check.due("size(24)", IAE, x.size(24));
    }

    private static void newHolesHaveNoSize() {
        Desk x = Desk.with(0, 0);
        Check.due("unify", 0, unified(x, 0, "h0", "h1"));
        Check.due("new holes", 1, x.count(2));
        for (int h : new int[] {2, 23, 24, 25}) {
            Check.due("size(" + h + ")", IAE, x.size(h));
            Check.due("uses(" + h + ")", IAE, x.uses(h));
        }
    }

    private static void sizeOfOpenHoles() {
        Desk x = Desk.with(0, 4, 1, 1);
        Check.due("no parameters", 1, x.size(0));
        Check.due("four parameters", 1, x.size(1));
        Check.due("unify", 0, unified(x, 1, "h2 v0", "h3 v0"));
        Check.due("filled with a hole that is open", 1, x.size(2));
        Check.due("unify", 0, unified(x, 1, "h2 v0", "v0"));
        Check.due("filled with a variable", 1, x.size(2));
        Check.due("unify", 0, unified(x, 1, "h0", "o2 v0"));
        Check.due("filled with two", 2, x.size(0));
        x.empty();
        for (int h = 0; h < 4; h++) Check.due("open again", 1, x.size(h));
    }

    private static void sizeWithAllFillings() {
        Desk x = Desk.with(1, 1, 4);
        Check.due("unify", 0, unified(x, 4, "h0 v0", "o4 h1 v0 h1 v0 v0"));
        Check.due("size(0)", 4, x.size(0));
        Check.due("unify", 0, unified(x, 4, "h1 v0", "o1 v0 v0"));
        Check.due("size(1)", 3, x.size(1));
        Check.due("size(0)", 8, x.size(0));
        Check.due("unify", 0, unified(x, 4, "h2 v0 v1 v2 v3", "o4 h0 v0 h0 v1 h1 v2"));
        Check.due("size(2)", 1 + 8 + 8 + 3, x.size(2));
        Check.due("unify, but with a fault", 1, unified(x, 4, "h1 v0", "o0"));
        Check.due("size(0)", 8, x.size(0));
    }

    private static void holesOfUses() {
        Desk x = Desk.with();
        Check.due("uses(0) when none was told", IAE, x.uses(0));
        x.hole(0);
        for (int h : new int[] {-1, 1, 24, MIN, MAX}) Check.due("uses(" + h + ")", IAE, x.uses(h));
        Check.due("uses(0)", 0, x.uses(0));
        for (int h = 1; h < 24; h++) x.hole(4);
        Check.due("uses(23)", 15, x.uses(23));
        Check.due("uses(24)", IAE, x.uses(24));
    }

    private static void usesOfOpenHoles() {
        Desk x = Desk.with(0, 1, 2, 3, 4);
        int[] all = {0, 1, 3, 7, 15};
        for (int h = 0; h < 5; h++) Check.due("uses(" + h + ")", all[h], x.uses(h));
        for (int n = 1; n < 5; n++) {
            String v = new String[] {"", "v0", "v0 v1", "v0 v1 v2", "v0 v1 v2 v3"}[n];
            Check.due("unify", 0, unified(x, 4, "h" + n + " " + v, "o0"));
            Check.due("uses(" + n + ")", 0, x.uses(n));
        }
        x.empty();
        for (int h = 0; h < 5; h++) Check.due("uses(" + h + ")", all[h], x.uses(h));
    }

    private static void usesAsBits() {
        Desk x = Desk.with(4, 4);
        int[] of = {3, 0, 2, 1};
        for (int bits = 0; bits < 16; bits++) {
            StringBuilder t = new StringBuilder("o3 o1 v0 ");
            for (int k = 0; k < 4; k++) t.append((bits >> k & 1) == 1 ? "o1 v" + (of[k] + 2) + " " : "");
            x.empty();
            Check.due("unify", 0, unified(x, 4, "h0 v3 v0 v2 v1", t + "v1"));
            Check.due("uses(0)", bits, x.uses(0));
        }
    }

    private static void usesByHoles() {
        Desk x = Desk.with(4, 2);
        Check.due("unify", 0, unified(x, 4, "h0 v3 v2 v1 v0", "o2 o1 h1 v1 v0 h1 v3 v1"));
        Check.due("uses(0), the bound one is none of it", 2 + 8, x.uses(0));
        Check.due("the second parameter goes", 0, unified(x, 4, "h1 v0 v1", "h1 v0 v2"));
        Check.due("uses(1)", 1, x.uses(1));
        Check.due("uses(0)", 2 + 8, x.uses(0));
        Check.due("the first parameter goes, too", 0, unified(x, 4, "h1 v0 v1", "o0"));
        Check.due("uses(1)", 0, x.uses(1));
        Check.due("uses(0)", 0, x.uses(0));
    }

    // Promise 12: empty

    private static void emptyOfNothing() {
        Desk x = new Desk();
        Check.due("a new object", 0, x.empty());
        for (int h = 0; h < 24; h++) x.hole(0);
        Check.due("no fillings", 0, x.empty());
        Check.due("count(1)", 24, x.count(1));
    }

    private static void emptyOfAll() {
        Desk x = Desk.with();
        for (int h = 0; h < 24; h++) x.hole(0);
        x.term(1, 0, "o0");
        for (int h = 0; h < 24; h++) {
            x.term(0, 0, "h" + h);
            Check.due("unify", 0, x.unify(0, 1));
        }
        Check.due("count(3)", 24, x.count(3));
        Check.due("empty()", 24, x.empty());
        Check.due("count(3)", 0, x.count(3));
        Check.due("empty() again", 0, x.empty());
    }

    private static void emptyCountsThoseThatWereTold() {
        Desk x = Desk.with(1, 1, 1);
        Check.due("unify", 0, unified(x, 2, "h0 v0", "h0 v1"));
        Check.due("unify", 0, unified(x, 2, "h0 v0", "o0"));
        Check.counts(x, 2, 1, 2);
        Check.due("one of two that are filled was told", 1, x.empty());
        Check.due("unify", 0, unified(x, 2, "h0 v0", "h1 v0"));
        Check.due("unify", 0, unified(x, 2, "h1 v0", "h2 v0"));
        Check.due("unify", 0, unified(x, 2, "h2 v0", "o0"));
        Check.counts(x, 2, 2, 5);
        Check.due("three of five", 3, x.empty());
        Check.due("unify with a fault", 2, unified(x, 2, "o1 h0 v0 h1 v0", "o1 o0 v1"));
        Check.due("none behind a fault", 0, x.empty());
    }

    private static void whatStaysBehindEmpty() {
        Desk x = Desk.with(1, 2);
        x.term(2, 2, "o1 h0 v0 h1 v1 v0");
        x.begin(3, 2);
        x.putAll(3, "o1 h1 v0");
        Check.due("unify", 0, unified(x, 2, "h0 v0", "o2 v1"));
        Check.due("unify", 1, unified(x, 2, "h0 v0", "o0"));
        Check.due("unify", 0, unified(x, 2, "h1 v0 v1", "h1 v1 v0"));
        Check.reads(x, 2, "o1 o2 v1 h0");
        Check.due("empty()", 2, x.empty());
        Check.counts(x, 0, 8, 2, 0, 0, 4, 1, 2, 1);
        Check.due("what was read", "o1 o2 v1 h0", x.textOfRead(4));
        Check.reads(x, 2, "o1 h0 v0 h1 v0 v1");
        Check.due("a term goes on where it was", IAE, x.put(3, 0, 0));
        Check.due("a term goes on where it was", 1, x.put(3, 0, 1));
        Check.due("a term goes on where it was", 0, x.put(3, 0, 0));
        Check.reads(x, 3, "o1 h0 v0 v1 v0");
        Check.due("the next hole", 2, x.hole(0));
        Check.due("the next operation", 8, x.operation(-1, -1, -1));
    }

    private static void newHolesGo() {
        Desk x = Desk.with(4, 1);
        x.term(2, 5, "o1 h0 v0 v1 v2 v3 h1 v0");
        for (int round = 0; round < 4; round++) {
            Check.due("unify", 0, unified(x, 5, "o1 h0 v0 v1 v2 v3 h0 v0 v1 v2 v3", "o1 h0 v4 v1 v2 v3 h0 v0 v4 v2 v3"));
            Check.counts(x, 2, 2, 2);
            Check.reads(x, 2, "o1 h0 v2 v3 h1 v0");
            Check.due("empty()", 1, x.empty());
            Check.counts(x, 2, 0, 0);
            Check.reads(x, 2, "o1 h0 v0 v1 v2 v3 h1 v0");
        }
    }

    // Promise 13: count

    private static void countOfOthers() {
        Desk x = Desk.with(0);
        for (int what : new int[] {-1, 8, 9, MIN, MAX}) Check.due("count(" + what + ")", NONE, x.count(what));
        Check.due("count(0)", 8, x.count(0));
        Check.due("count(7)", 0, x.count(7));
    }

    private static void countEach() {
        Desk x = Desk.with(1, 1, 0);
        Check.due("unify", 0, unified(x, 1, "o1 h0 v0 h2", "o1 h1 v0 o0"));
        Check.due("unify", 0, x.unify(0, 0));
        Check.due("unify", 0, x.unify(1, 1));
        Check.due("unify", 1, unified(x, 1, "h2", "o5"));
        x.term(0, 1, "o4 h0 v0 h1 v0 h2");
        Check.due("read", 6, x.read(0));
        Check.counts(x, 0, 8, 3, 1, 3, 6, 1, 3, 1);
    }

    private static void countOfWhatWasRead() {
        Desk x = Desk.with(0, 0, 2);
        Check.counts(x, 4, 0, 0);
        x.term(0, 2, "o4 h0 h1 o4 h0 h2 v0 v1 h2 v1 v0");
        Check.counts(x, 4, 0, 0);
        x.read(0);
        Check.counts(x, 4, 11, 3);
        x.term(1, 2, "h0");
        x.term(2, 2, "o0");
        Check.due("unify", 0, x.unify(1, 2));
        Check.counts(x, 4, 11, 3);
        x.read(0);
        Check.counts(x, 4, 11, 2);
        x.read(2);
        Check.counts(x, 4, 1, 0);
        x.empty();
        Check.counts(x, 4, 1, 0);
        x.read(1);
        Check.counts(x, 4, 1, 1);
    }

    private static void countOfUnifyings() {
        Desk x = Desk.with(0);
        x.term(0, 1, "h0");
        x.term(1, 1, "v0");
        x.term(2, 1, "o0");
        x.term(3, 2, "o0");
        int[] faults = {2, 0, 1, 0};
        int[][] slots = {{0, 1}, {0, 2}, {1, 0}, {2, 0}};
        int good = 0;
        for (int i = 0; i < 4; i++) {
            Check.due("unify", faults[i], x.unify(slots[i][0], slots[i][1]));
            good += faults[i] == 0 ? 1 : 0;
            Check.counts(x, 6, good, i + 1 - good);
        }
        Check.due("no such slot", IAE, x.unify(0, 8));
        Check.due("other depths", ISE, x.unify(0, 3));
        Check.due("not whole", ISE, x.unify(0, 4));
        Check.counts(x, 6, 2, 2);
        x.empty();
        x.begin(0, 0);
        Check.counts(x, 6, 2, 2);
    }

    private static void fiveHundredAndTwelve() {
        Desk x = Desk.with(1);
        x.term(0, 4, "h0 v0");
        x.term(1, 4, times(14, "o1 v0") + "v0");
        x.term(2, 4, "o4 h0 v3 h0 v0 o0");
        while (x.calls() <= 510 - 3) {
            Check.due("unify", 0, x.unify(0, 1));
            Check.due("read", 60, x.read(2));
            Check.due("empty", 1, x.empty());
        }
        while (x.calls() < 510) x.count(0);
        Check.due("call 511", 0, x.unify(0, 1));
        Check.due("call 512", 29, x.size(0));
        Check.due("calls", 512, x.calls());
    }

    /** Eighteen large fillings in each unifying, which a fault or empty takes away again. */
    private static void fiveHundredAndTwelveLargeOnes() {
        Desk x = Desk.with(4, 4, 4);
        for (int h = 3; h < 22; h++) x.hole(4);
        String under = "h0 v2 v3 v4 v5 ";
        x.term(0, 4, "h1 v0 v1 v2 v3");
        x.term(1, 4, "o3 " + times(8, "o4") + times(17, under));
        x.term(2, 4, "h2 v0 v1 v2 v3");
        x.term(3, 4, "o2 o4" + times(3, " h1 v1 v2 v3 v4"));
        StringBuilder open = new StringBuilder(times(9, "o4"));
        for (int h = 3; h < 21; h++) open.append("h").append(h).append(" v0 v1 v2 v3 ");
        x.term(4, 4, open + "h21 v0 v1 v2 v3");
        x.term(5, 4, times(9, "o4") + times(19, "h2 v3 v2 v1 v0"));
        while (x.calls() < 490) {
            Check.due("26", 0, x.unify(0, 1));
            Check.due("80", 0, x.unify(2, 3));
            Check.due("all", 0, x.unify(4, 5));
            Check.due("isSame", 1, x.isSame(4, 5));
            Check.due("empty", 21, x.empty());
        }
        Check.due("isSame", 0, x.isSame(4, 5));
        Check.due("size(20)", 1, x.size(20));
    }

    private static void fiveHundredAndTwelveFaults() {
        Desk x = Desk.with(4, 4, 4);
        for (int h = 3; h < 21; h++) x.hole(4);
        Check.due("26", 0, unified(x, 4, "h1 v0 v1 v2 v3", "o3 " + times(8, "o4") + times(17, "h0 v2 v3 v4 v5")));
        Check.due("80", 0, unified(x, 4, "h2 v0 v1 v2 v3", "o2 o4" + times(3, " h1 v1 v2 v3 v4")));
        StringBuilder open = new StringBuilder(times(9, "o4"));
        for (int h = 3; h < 21; h++) open.append("h").append(h).append(" v0 v1 v2 v3 ");
        x.term(0, 4, open + "o0");
        x.term(1, 4, times(9, "o4") + times(18, "h2 v3 v2 v1 v0") + "o5");
        x.term(2, 4, "h20 v0 v1 v2 v3");
        x.term(3, 4, "h2 v3 v2 v1 v0");
        while (x.calls() < 500) Check.due("a fault behind 18 fillings", 1, x.unify(0, 1));
        Check.counts(x, 2, 0, 2);
        Check.due("size(20)", 1, x.size(20));
        Check.due("unify", 0, x.unify(2, 3));
        Check.due("size(20)", 80, x.size(20));
        Check.due("isSame", 1, x.isSame(2, 3));
    }

    public static void main(String[] args) {
        Check.edge(7, "how many items it has then, with variables of holes", ReadingEdgesTest::howManyItems);
        Check.edge(7, "throws as unify: no such slot", ReadingEdgesTest::slotsOfRead);
        Check.edge(7, "throws as unify: not whole", ReadingEdgesTest::readOfWhatIsNotWhole);
        Check.edge(7, "a read that is refused", ReadingEdgesTest::readThatIsRefused);
        Check.edge(7, "open holes are numbered anew, as they come up", ReadingEdgesTest::numberedAnew);
        Check.edge(7, "as many open holes as a term can have", ReadingEdgesTest::nineteenOpenHoles);
        Check.edge(7, "the order in which the variables at the first place rise", ReadingEdgesTest::inTheOrderThatRises);
        Check.edge(7, "the first place in this reading", ReadingEdgesTest::orderOfEachReading);
        Check.edge(7, "with all fillings, as far as they go", ReadingEdgesTest::asFarAsFillingsGo);
        Check.edge(7, "along many fillings, as far as they go", ReadingEdgesTest::alongManyFillings);
        Check.edge(7, "the largest terms", ReadingEdgesTest::theLargest);

        Check.edge(8, "IndexOutOfBoundsException before any reading", ReadingEdgesTest::itemBeforeAnyReading);
        Check.edge(8, "IndexOutOfBoundsException when there is none", ReadingEdgesTest::itemsThatThereAre);
        Check.edge(8, "4 * its number + its sort", ReadingEdgesTest::numberAndSort);
        Check.edge(8, "the term that was read latest", ReadingEdgesTest::readLatest);

        Check.edge(9, "throws as unify", ReadingEdgesTest::isSameThrows);
        Check.edge(9, "throws as unify: other depths", ReadingEdgesTest::isSameOfOtherDepths);
        Check.edge(9, "whether the terms of two slots are the same", ReadingEdgesTest::whetherTheyAreTheSame);
        Check.edge(9, "the same but for one variable of a hole", ReadingEdgesTest::oneVariableDiffers);
        Check.edge(9, "whether they are, changing nothing", ReadingEdgesTest::isSameChangesNothing);
        Check.edge(9, "with all fillings", ReadingEdgesTest::sameWithAllFillings);

        Check.edge(10, "IllegalArgumentException when there is none such", ReadingEdgesTest::holesOfSize);
        Check.edge(10, "of those that were told (and uses)", ReadingEdgesTest::newHolesHaveNoSize);
        Check.edge(10, "1 when it is open", ReadingEdgesTest::sizeOfOpenHoles);
        Check.edge(10, "with all fillings", ReadingEdgesTest::sizeWithAllFillings);

        Check.edge(11, "throws as size", ReadingEdgesTest::holesOfUses);
        Check.edge(11, "all when it is open", ReadingEdgesTest::usesOfOpenHoles);
        Check.edge(11, "bit k: parameter k", ReadingEdgesTest::usesAsBits);
        Check.edge(11, "what fills it has, with all fillings", ReadingEdgesTest::usesByHoles);

        Check.edge(12, "No fillings, when there are none", ReadingEdgesTest::emptyOfNothing);
        Check.edge(12, "No fillings, when all have one", ReadingEdgesTest::emptyOfAll);
        Check.edge(12, "how many of the holes that were told had one", ReadingEdgesTest::emptyCountsThoseThatWereTold);
        Check.edge(12, "Terms, operations and holes stay", ReadingEdgesTest::whatStaysBehindEmpty);
        Check.edge(12, "new holes go", ReadingEdgesTest::newHolesGo);

        Check.edge(13, "NONE for others", ReadingEdgesTest::countOfOthers);
        Check.edge(13, "what = 0 .. 7", ReadingEdgesTest::countEach);
        Check.edge(13, "4 and 5, of the term that was read latest", ReadingEdgesTest::countOfWhatWasRead);
        Check.edge(13, "6 and 7, since the beginning", ReadingEdgesTest::countOfUnifyings);
        Check.edge(13, "an object is used for at most 512 calls", ReadingEdgesTest::fiveHundredAndTwelve);
        Check.edge(12, "512 calls with large fillings", ReadingEdgesTest::fiveHundredAndTwelveLargeOnes);
        Check.edge(6, "512 calls with faults behind large fillings", ReadingEdgesTest::fiveHundredAndTwelveFaults);
        Check.end();
    }
}
