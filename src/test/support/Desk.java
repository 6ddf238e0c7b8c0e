/**
 * A HoleFiller whose exceptions are answers like any other. It tells when a test goes beyond the 512
 * calls that the document speaks of, for what later calls answer is free.
 */
final class Desk {
    static final int IAE = -1001;
    static final int ISE = -1002;
    static final int IOOBE = -1003;
    /** An exception that no promise names, or one that is only of a class below one that is named. */
    static final int OTHER = -2000;

    private interface Call {
        int answer();
    }

    private final HoleFiller real = new HoleFiller();
    private int calls;

    /** o0 and o5 have no arguments, o1 and o6 two, o4 three; o2 binds one, o3 two, o7 none, one and two. */
    static Desk with(int... parameters) {
        Desk x = new Desk();
        x.operation(-1, -1, -1);
        x.operation(0, 0, -1);
        x.operation(1, -1, -1);
        x.operation(2, -1, -1);
        x.operation(0, 0, 0);
        x.operation(-1, -1, -1);
        x.operation(0, 0, -1);
        x.operation(0, 1, 2);
        for (int n : parameters) x.hole(n);
        return x;
    }

    private int made(Call call) {
        calls++;
        if (calls == 513) Check.fail("this test makes more than 512 calls on one object");
        try {
            return call.answer();
        } catch (RuntimeException e) {
            if (e.getClass() == IllegalArgumentException.class) return IAE;
            if (e.getClass() == IllegalStateException.class) return ISE;
            if (e.getClass() == IndexOutOfBoundsException.class) return IOOBE;
            return OTHER;
        }
    }

    int calls() {
        return calls;
    }

    int operation(int first, int second, int third) {
        return made(() -> real.operation(first, second, third));
    }

    int hole(int n) {
        return made(() -> real.hole(n));
    }

    int begin(int slot, int depth) {
        return made(() -> real.begin(slot, depth));
    }

    int put(int slot, int sort, int x) {
        return made(() -> real.put(slot, sort, x));
    }

    int unify(int a, int b) {
        return made(() -> real.unify(a, b));
    }

    int read(int slot) {
        return made(() -> real.read(slot));
    }

    int item(int i) {
        return made(() -> real.item(i));
    }

    int isSame(int a, int b) {
        return made(() -> real.isSame(a, b) ? 1 : 0);
    }

    int size(int h) {
        return made(() -> real.size(h));
    }

    int uses(int h) {
        return made(() -> real.uses(h));
    }

    int empty() {
        return made(real::empty);
    }

    int count(int what) {
        return made(() -> real.count(what));
    }

    /** Puts a written item, v3 for variable 3, o3 for operation 3, h3 for hole 3. */
    int put(int slot, String item) {
        return put(slot, "voh".indexOf(item.charAt(0)), Integer.parseInt(item.substring(1)));
    }

    /** Puts written items; what the last one answers. */
    int putAll(int slot, String items) {
        int due = -3000;
        for (String item : items.trim().split(" +")) due = put(slot, item);
        return due;
    }

    /** A whole term. */
    void term(int slot, int depth, String items) {
        begin(slot, depth);
        int due = putAll(slot, items);
        if (due != 0) Check.fail(items + " is no whole term: the last put answers " + due);
    }

    /** The items that are read, as they are written for put. */
    String text(int slot) {
        int n = read(slot);
        if (n < 0) return "read answers " + n;
        return textOfRead(n);
    }

    String textOfRead(int n) {
        StringBuilder all = new StringBuilder();
        for (int i = 0; i < n; i++) {
            int code = item(i);
            if (code < 0) return "item(" + i + ") answers " + code;
            all.append(i == 0 ? "" : " ").append("voh?".charAt(code & 3)).append(code >> 2);
        }
        return all.toString();
    }

    /** Sizes and uses of the holes, and the counts of all that is kept but the faults. */
    String state(int holes) {
        StringBuilder all = new StringBuilder();
        for (int h = 0; h < holes; h++) all.append(size(h)).append('/').append(uses(h)).append(' ');
        for (int what = 0; what < 7; what++) all.append(count(what)).append(what < 6 ? "," : "");
        return all.toString();
    }
}
