import java.util.Arrays;

/** Counts the answers that are not as due, and prints each with the promise that it breaks. */
final class Check {
    private static int wrong;
    private static int edges;
    private static String part = "";

    /** One test for one sentence of the document. */
    static void edge(int promise, String sentence, Runnable test) {
        edges++;
        part("promise " + promise + ", '" + sentence + "'");
        test.run();
    }

    static void part(String name) {
        part = name;
    }

    static void fail(String what) {
        wrong++;
        System.out.println(part + ": " + what);
    }

    static void due(String call, int want, int got) {
        if (got != want) fail(call + " answered " + got + ", due is " + want);
    }

    static void due(String call, String want, String got) {
        if (!got.equals(want)) fail(call + " answered " + got + ", due is " + want);
    }

    /** count(first), count(first + 1), .. */
    static void counts(Desk x, int first, int... want) {
        int[] got = new int[want.length];
        for (int i = 0; i < want.length; i++) got[i] = x.count(first + i);
        due("count from " + first + " on", Arrays.toString(want), Arrays.toString(got));
    }

    static void reads(Desk x, int slot, String items) {
        due("the reading of slot " + slot, items, x.text(slot));
    }

    static void end() {
        if (edges > 0) System.out.println(edges + " boundary cases");
        System.out.println(wrong == 0 ? "all answers are as due" : wrong + " answers are not as due");
        if (wrong != 0) System.exit(1);
    }
}
