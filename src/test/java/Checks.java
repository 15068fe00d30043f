import java.util.Arrays;

/** What the tests share: answers beside the ones that are due, and all that an object shows of itself. */
abstract class Checks {
    static final int UNKNOWN = -1001, BAD_VALUE = -1002, ASSIGNED = -1003, NOT_ASSIGNED = -1004,
            NOT_FEASIBLE = -1005, FULL = -1006, NONE = -1007;
    static final int LEAST = Integer.MIN_VALUE, MOST = Integer.MAX_VALUE;

    /** The promise or the sentence of DOC.md that the next checks are about. */
    static String part = "";
    private static int wrong = 0;

    static void due(int want, int got, String call) {
        if (want != got) {
            wrong++;
            System.out.println(part + ": " + call + " answered " + got + ", due is " + want);
        }
    }

    /** Several answers in a row, for calls that differ in one argument from 0 upward. */
    static void dueRow(String calls, int[] want, int... got) {
        if (want.length != got.length) due(want.length, got.length, calls + ", how many there are");
        for (int k = 0; k < Math.min(want.length, got.length); k++) due(want[k], got[k], calls + " number " + k);
    }

    static int[] row(int... numbers) {
        return numbers;
    }

    /** Ends the program, with exit code 1 if an answer was wrong. */
    static void end(String allIsWell) {
        System.out.println(wrong == 0 ? allIsWell : wrong + " answers are wrong");
        if (wrong != 0) System.exit(1);
    }

    static boolean isRefusal(int answer) {
        return answer <= UNKNOWN && answer >= NONE;
    }

    /** All that can be asked about an object, in at most 306 calls: an object stands for 512 only. */
    static int[] shown(SharedRides x) {
        int[] all = new int[306];
        int n = 0;
        for (int what = 0; what < 6; what++) all[n++] = x.count(what);
        for (int r = 0; r < all[1]; r++) {
            for (int what = 0; what < 8; what++) all[n++] = x.request(r, what);
            all[n++] = x.rideTime(r, false);
            all[n++] = x.rideTime(r, true);
        }
        for (int v = 0; v < all[0]; v++) {
            for (int what = 0; what < 7; what++) all[n++] = x.vehicle(v, what);
            all[n++] = x.depotTime(v, false);
            all[n++] = x.depotTime(v, true);
            int stops = all[n - 6];
            for (int k = 0; k < stops; k++) {
                for (int what = 0; what < 6; what++) all[n++] = x.stop(v, k, what);
            }
        }
        return Arrays.copyOf(all, n);
    }

    /** The stops of all routes: 2 * request for a pickup, and one more for a drop; -1 ends a route. */
    static int[] plan(SharedRides x) {
        int[] all = new int[28];
        int n = 0;
        for (int v = 0; v < x.count(0); v++) {
            int stops = x.vehicle(v, 3);
            for (int k = 0; k < stops; k++) all[n++] = 2 * x.stop(v, k, 0) + x.stop(v, k, 1);
            all[n++] = -1;
        }
        return Arrays.copyOf(all, n);
    }
}
