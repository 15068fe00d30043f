import java.util.Arrays;
import java.util.List;
import java.util.Random;

/**
 * Long runs of random calls, the same ones each time, on a SharedRides and on a PlainModel side by
 * side: both must answer alike, and after each call that may change something, show the same state.
 */
public final class RandomRunsTest {
    private static final int CALLS = 512;

    private final Random random;
    private final SharedRides rides = new SharedRides();
    private final PlainModel model = new PlainModel();
    private final String name;
    private final int grid;
    private final int shift;
    private final int width;
    private final int limit;
    private final int weight;
    /** Whether the routes have little room, so that some requests fit by long chains alone. */
    private final boolean crowded;
    /** Whether little but the routes is changed after a while, so that the history grows. */
    private final boolean calm;
    private final StringBuilder calls = new StringBuilder();
    private boolean wrong = false;

    private static final List<String> ASKING =
        List.of("count", "request", "vehicle", "stop", "rideTime", "depotTime", "best", "cost", "chainCost");
    private static final int[] SEEN = new int[9];

    private RandomRunsTest(int seed) {
        random = new Random(seed);
        name = "run " + seed;
        crowded = seed % 3 == 0;
        grid = new int[] {30, 99, 9, 2}[random.nextInt(crowded ? 2 : 4)];
        calm = seed % 3 != 1;
        shift = crowded ? 3 * grid : Math.min(5000, new int[] {6, 12, 60, 1000}[random.nextInt(4)] * grid);
        width = new int[] {grid, 5 * grid, 5000}[crowded ? 0 : random.nextInt(3)];
        limit = new int[] {2 * grid, 4 * grid, 1000}[random.nextInt(3)];
        weight = random.nextBoolean() ? 2 : 8;
    }

    public static void main(String[] args) {
        int failed = 0;
        for (int seed = 1; seed <= 300; seed++) {
            if (!new RandomRunsTest(seed).go()) failed++;
        }
        StringBuilder rare = new StringBuilder();
        for (int k = 0; k < 9; k++) {
            rare.append(' ').append(SEEN[k]);
            // Runs that never get to a chain or a full history would prove nothing about them.
            if (SEEN[k] < 50) failed++;
        }
        System.out.println("seen: short and long chains, none, negative ones, improvements, undone, full histories,"
            + " refused changes, waits:" + rare);
        if (failed != 0) System.exit(1);
    }

    private boolean go() {
        int vehicles = crowded ? 4 : 1 + random.nextInt(4);
        int requests = random.nextInt(5) == 0 ? 12 : (crowded ? 6 : 2) + random.nextInt(7);
        for (int v = 0; v < vehicles; v++) addVehicle();
        for (int r = 0; r < requests; r++) addRequest();
        for (int k = vehicles + requests; k < CALLS && !wrong; k++) {
            step((crowded || calm && k > 60) && random.nextInt(40) > 0);
        }
        return !wrong;
    }

    private void step(boolean routesOnly) {
        switch (routesOnly ? 5 + random.nextInt(19) : random.nextInt(24)) {
            case 0 -> rarely();
            case 1, 2 -> setWindow();
            case 3 -> setLimit();
            case 4 -> setLoad();
            case 5, 6 -> queries();
            case 7, 8 -> insertion();
            case 9, 10, 11 -> assignTo();
            case 12, 13, 14 -> assign();
            case 15, 16 -> remove();
            case 17, 18, 19, 20 -> chain();
            case 21, 22 -> improve();
            default -> undo();
        }
        if (!wrong) compareStates();
    }

    private void rarely() {
        switch (random.nextInt(10)) {
            case 0 -> addVehicle();
            case 1 -> addRequest();
            default -> setService();
        }
    }

    private void addVehicle() {
        int x = place(), y = place(), capacity = oddly(1 + random.nextInt(8), 0, 9);
        int first = random.nextInt(3) == 0 ? random.nextInt(grid + 1) : 0;
        int last = Math.min(5000, first + random.nextInt(shift + 1));
        if (crowded) last = first + shift - random.nextInt(grid + 1);
        if (random.nextInt(20) == 0) last = first - 1;
        check("addVehicle",
            rides.addVehicle(x, y, capacity, first, last), model.addVehicle(x, y, capacity, first, last), x, y, capacity, first, last);
    }

    private void addRequest() {
        int x = place(), y = place(), toX = place(), toY = place();
        int load = oddly(1 + random.nextInt(weight), 0, 9), most = oddly(random.nextInt(limit + 1), -1, 1001);
        check("addRequest",
            rides.addRequest(x, y, toX, toY, load, most), model.addRequest(x, y, toX, toY, load, most), x, y, toX, toY, load, most);
    }

    private void setWindow() {
        int r = someRequest();
        boolean drop = random.nextBoolean();
        int first = oddly(random.nextInt(shift + 1), -1, 5001);
        int last = oddly(Math.min(5000, first + random.nextInt(width + 1)), first - 1, 5001);
        if (random.nextInt(4) == 0) {
            first = model.request(r, drop ? 5 : 3);
            last = Math.max(first, model.request(r, drop ? 6 : 4) + random.nextInt(2));
        } else if (random.nextInt(3) == 0) {
            first = Math.max(0, model.request(r, drop ? 5 : 3) - 5);
            last = Math.min(5000, first + width);
        }
        check("setWindow",
            rides.setWindow(r, drop, first, last), model.setWindow(r, drop, first, last), r, drop, first, last);
    }

    private void setLimit() {
        int r = someRequest(), most = oddly(random.nextInt(limit + 1), -1, 1001);
        check("setLimit", rides.setLimit(r, most), model.setLimit(r, most), r, most);
    }

    private void setLoad() {
        int r = someRequest(), load = oddly(1 + random.nextInt(weight), 0, 9);
        check("setLoad", rides.setLoad(r, load), model.setLoad(r, load), r, load);
    }

    private void setService() {
        int minutes = oddly(random.nextInt(11), -1, 11);
        check("setService", rides.setService(minutes), model.setService(minutes), minutes);
    }

    private void queries() {
        int r = someRequest(), v = someVehicle(), what = random.nextInt(10) - 1, k = random.nextInt(12) - 1;
        check("count", rides.count(what), model.count(what), what);
        check("request", rides.request(r, what), model.request(r, what), r, what);
        check("vehicle", rides.vehicle(v, what), model.vehicle(v, what), v, what);
        check("stop", rides.stop(v, k, what), model.stop(v, k, what), v, k, what);
        check("rideTime", rides.rideTime(r, false), model.rideTime(r, false), r, false);
        check("rideTime", rides.rideTime(r, true), model.rideTime(r, true), r, true);
        check("depotTime", rides.depotTime(v, false), model.depotTime(v, false), v, false);
        check("depotTime", rides.depotTime(v, true), model.depotTime(v, true), v, true);
    }

    private void insertion() {
        int r = likelyOpen(), v = someVehicle(), n = Math.max(0, model.vehicle(v, 3));
        int i = oddly(random.nextInt(n + 1), -1, n + 1);
        int j = oddly(i + 1 + random.nextInt(n + 1), i, n + 2);
        check("best", rides.best(r, v), model.best(r, v), r, v);
        check("cost", rides.cost(r, v, i, j), model.cost(r, v, i, j), r, v, i, j);
        check("insert", rides.insert(r, v, i, j), model.insert(r, v, i, j), r, v, i, j);
    }

    private void assignTo() {
        int r = likelyOpen(), v = someVehicle();
        check("assignTo", rides.assignTo(r, v), model.assignTo(r, v), r, v);
    }

    private void assign() {
        int r = likelyOpen();
        check("assign", rides.assign(r), model.assign(r), r);
    }

    private void remove() {
        int r = someRequest();
        check("remove", rides.remove(r), model.remove(r), r);
    }

    private void chain() {
        int r = likelyOpen(), due = model.chainCost(r);
        check("chainCost", rides.chainCost(r), due, r);
        note(3, due > 0 && due < 10000);
        if (random.nextBoolean()) return;
        due = model.chain(r);
        check("chain", rides.chain(r), due, r);
        note(0, due >= 0 && due % 100 == 99);
        note(1, due >= 0 && due % 100 != 99);
        note(2, due == PlainModel.NOT_FEASIBLE);
    }

    private void improve() {
        int due = model.improve();
        check("improve", rides.improve(), due);
        note(4, due > 0);
    }

    private void undo() {
        note(6, model.count(5) == 10);
        int due = model.undo();
        check("undo", rides.undo(), due);
        note(5, due >= 0);
    }

    private void compareStates() {
        for (int what = 0; what < 6; what++) check("count", rides.count(what), model.count(what), what);
        for (int r = 0; r < model.count(1); r++) {
            for (int what = 0; what < 8; what++) {
                check("request", rides.request(r, what), model.request(r, what), r, what);
            }
            check("rideTime", rides.rideTime(r, false), model.rideTime(r, false), r, false);
            check("rideTime", rides.rideTime(r, true), model.rideTime(r, true), r, true);
        }
        for (int v = 0; v < model.count(0); v++) compareRoutes(v);
    }

    private void compareRoutes(int v) {
        for (int what = 0; what < 7; what++) {
            check("vehicle", rides.vehicle(v, what), model.vehicle(v, what), v, what);
        }
        check("depotTime", rides.depotTime(v, false), model.depotTime(v, false), v, false);
        check("depotTime", rides.depotTime(v, true), model.depotTime(v, true), v, true);
        for (int k = 0; k <= model.vehicle(v, 3); k++) {
            for (int what = 0; what < 6; what++) {
                check("stop", rides.stop(v, k, what), model.stop(v, k, what), v, k, what);
            }
            note(8, model.stop(v, k, 5) > 0);
        }
    }

    private int place() {
        return oddly(random.nextInt(grid + 1), -1, 100);
    }

    private int someRequest() {
        return oddly(random.nextInt(Math.max(1, model.count(1))), -1, model.count(1));
    }

    private int likelyOpen() {
        int r = someRequest();
        for (int k = 0; k < 4 && model.request(r, 0) >= 0; k++) r = someRequest();
        return r;
    }

    private int someVehicle() {
        return oddly(random.nextInt(Math.max(1, model.count(0))), -1, model.count(0));
    }

    /** The value, but now and then one of these two wrong ones, or one that is far out. */
    private int oddly(int value, int low, int high) {
        switch (random.nextInt(160)) {
            case 0, 1: return low;
            case 2, 3: return high;
            case 4: return Integer.MIN_VALUE;
            case 5: return Integer.MAX_VALUE;
            default: return value;
        }
    }

    private static void note(int what, boolean seen) {
        if (seen) SEEN[what]++;
    }

    private void check(String method, int got, int due, Object... arguments) {
        note(7, due == PlainModel.NOT_FEASIBLE && method.startsWith("set"));
        boolean changes = !ASKING.contains(method);
        if (changes) calls.append(text(method, arguments)).append("; ");
        if (got != due && !wrong) {
            wrong = true;
            System.out.println(name + ": " + calls + (changes ? "the last" : text(method, arguments)) + " answered "
                + got + ", due is " + due);
        }
    }

    private static String text(String method, Object[] arguments) {
        String list = Arrays.toString(arguments);
        return method + "(" + list.substring(1, list.length() - 1) + ")";
    }
}
