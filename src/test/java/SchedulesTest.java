import java.util.ArrayList;
import java.util.Arrays;
import java.util.List;
import java.util.Random;

/**
 * The definition of a schedule taken at its word: all schedules of short routes in short shifts are
 * gone through, minute by minute. A route must be feasible exactly if there is one, and the earliest
 * and the latest schedule must have the least and the greatest time of each stop in any of them.
 */
public final class SchedulesTest extends Checks {
    private static final int REQUESTS = 3;

    private final Random random;
    private final SharedRides x = new SharedRides();
    private final int grid;
    private final int span;
    private final int depotX, depotY, capacity, first, last;
    private int service = 1;
    /** Of each request: fromX, fromY, toX, toY, load, limit, and the windows of its pickup and its drop. */
    private final int[][] requests = new int[REQUESTS][10];
    /** 2 * request for a pickup, and one more for a drop. */
    private List<Integer> route = new ArrayList<>();

    /** What was found of the route that was gone through last. */
    private int[] least = {};
    private int[] greatest = {};
    private boolean found = false;

    private static int feasible = 0, infeasible = 0, putOff = 0, broughtForward = 0, refused = 0, changed = 0;

    private SchedulesTest(int seed) {
        random = new Random(seed);
        part = "schedules, run " + seed;
        grid = 1 + random.nextInt(3);
        span = 8 + random.nextInt(9);
        depotX = random.nextInt(grid + 1);
        depotY = random.nextInt(grid + 1);
        capacity = 1 + random.nextInt(3);
        first = random.nextInt(3) == 0 ? 5000 - span : random.nextInt(5);
        last = first + span;
    }

    public static void main(String[] args) {
        for (int seed = 1; seed <= 3000; seed++) new SchedulesTest(seed).go();
        part = "schedules, what was met";
        for (int often : row(feasible, infeasible, putOff, broughtForward, refused, changed)) {
            // What hardly ever came up would prove nothing.
            if (often < 300) due(300, often, "how often it was met");
        }
        end("all schedules agree");
    }

    private void go() {
        due(0, x.addVehicle(depotX, depotY, capacity, first, last), "addVehicle");
        for (int r = 0; r < REQUESTS; r++) addRequest(r);
        setService();
        for (int r = 0; r < REQUESTS; r++) {
            for (int tries = 0; tries < 4 && !route.contains(2 * r); tries++) insert(r);
        }
        for (int k = 0; k < 6 && !route.isEmpty(); k++) change();
    }

    private void addRequest(int r) {
        int[] q = requests[r];
        for (int k = 0; k < 4; k++) q[k] = random.nextInt(grid + 1);
        q[4] = 1 + random.nextInt(2);
        q[5] = random.nextInt(span);
        due(r, x.addRequest(q[0], q[1], q[2], q[3], q[4], q[5]), "addRequest");
        q[7] = 5000;
        q[9] = 5000;
        for (int end = 0; end < 2; end++) if (random.nextInt(3) > 0) setWindow(r, end);
    }

    private void setWindow(int r, int end) {
        int[] q = requests[r];
        int[] old = q.clone();
        q[6 + 2 * end] = Math.min(5000, first + random.nextInt(span + 1));
        q[7 + 2 * end] = Math.min(5000, q[6 + 2 * end] + random.nextInt(span + 1));
        boolean other = !Arrays.equals(old, q);
        taken(x.setWindow(r, end == 1, q[6 + 2 * end], q[7 + 2 * end]), other ? 1 : 0, r, old, "setWindow");
    }

    private void setLimit(int r) {
        int[] old = requests[r].clone();
        requests[r][5] = random.nextInt(span);
        taken(x.setLimit(r, requests[r][5]), old[5], r, old, "setLimit");
    }

    private void setLoad(int r) {
        int[] old = requests[r].clone();
        requests[r][4] = 1 + random.nextInt(4);
        taken(x.setLoad(r, requests[r][4]), old[4], r, old, "setLoad");
    }

    /** A change of a request is taken exactly if the route stays feasible, and nothing changes otherwise. */
    private void taken(int answer, int want, int r, int[] old, String call) {
        goThrough(route);
        due(found ? want : NOT_FEASIBLE, answer, call + " of request " + r + " from " + Arrays.toString(old) + " to "
            + Arrays.toString(requests[r]));
        if (!found) requests[r] = old;
    }

    private void setService() {
        int old = service;
        service = random.nextInt(4);
        goThrough(route);
        due(found ? old : NOT_FEASIBLE, x.setService(service), "setService(" + service + ")");
        if (!found) service = old;
    }

    private void insert(int r) {
        int i = random.nextInt(route.size() + 1);
        int j = i + 1 + random.nextInt(route.size() + 1 - i);
        List<Integer> with = new ArrayList<>(route);
        with.add(i, 2 * r);
        with.add(j, 2 * r + 1);
        goThrough(with);
        boolean fits = found;
        String places = "(" + r + ", 0, " + i + ", " + j + ")";
        due(fits ? 0 : NOT_FEASIBLE, Math.min(0, x.cost(r, 0, i, j)), "cost" + places + ", below 0");
        due(fits ? 0 : NOT_FEASIBLE, Math.min(0, x.insert(r, 0, i, j)), "insert" + places + ", below 0");
        if (fits) route = with;
        compare();
    }

    private void change() {
        int r = route.get(random.nextInt(route.size())) / 2;
        switch (random.nextInt(6)) {
            case 0 -> setService();
            case 1 -> setLoad(r);
            case 2, 3 -> setLimit(r);
            default -> setWindow(r, random.nextInt(2));
        }
        if (found) changed++;
        else refused++;
        compare();
    }

    /** All that tells of times and loads, beside what all schedules have in common. */
    private void compare() {
        goThrough(route);
        due(1, found ? 1 : 0, "all routes are feasible at any time, so that");
        int n = route.size();
        for (int k = 0; k < n; k++) {
            due(route.get(k), 2 * x.stop(0, k, 0) + x.stop(0, k, 1), "stop(0, " + k + "), which one");
            due(least[k], x.stop(0, k, 2), "stop(0, " + k + ", 2) of " + route);
            due(greatest[k], x.stop(0, k, 3), "stop(0, " + k + ", 3) of " + route);
            due(loadAfter(route, k), x.stop(0, k, 4), "stop(0, " + k + ", 4) of " + route);
            int free = least[k] - (k == 0 ? first + toDepot(route.get(0)) : least[k - 1] + gap(route, k));
            due(free, x.stop(0, k, 5), "stop(0, " + k + ", 5) of " + route);
            int window = 6 + 2 * (route.get(k) % 2);
            if (free > 0 && least[k] > requests[route.get(k) / 2][window]) putOff++;
        }
        if (n == 0) return;
        due(greatest[0] - toDepot(route.get(0)), x.depotTime(0, false), "depotTime(0, false) of " + route);
        due(least[n - 1] + service + toDepot(route.get(n - 1)), x.depotTime(0, true), "depotTime(0, true) of " + route);
        for (int k : route) if (k % 2 == 0) compareRide(k);
    }

    private void compareRide(int pickup) {
        int from = route.indexOf(pickup);
        int to = route.indexOf(pickup + 1);
        due(least[to] - least[from] - service, x.rideTime(pickup / 2, false), "rideTime(" + pickup / 2 + ", false)");
        due(greatest[to] - greatest[from] - service, x.rideTime(pickup / 2, true), "rideTime(" + pickup / 2 + ", true)");
        if (greatest[to] - greatest[from] - service == requests[pickup / 2][5]) broughtForward++;
    }

    private void goThrough(List<Integer> stops) {
        found = false;
        least = new int[stops.size()];
        greatest = new int[stops.size()];
        Arrays.fill(least, MOST);
        Arrays.fill(greatest, LEAST);
        boolean room = true;
        for (int k = 0; k < stops.size(); k++) room &= loadAfter(stops, k) <= capacity;
        if (room) goOn(stops, new int[stops.size()], 0);
        if (found) feasible++;
        else infeasible++;
    }

    /** Gives stop k each time that it can have behind the stops before it. */
    private void goOn(List<Integer> stops, int[] times, int k) {
        if (k == stops.size()) {
            if (k > 0 && times[k - 1] + service + toDepot(stops.get(k - 1)) > last) return;
            found = true;
            for (int s = 0; s < k; s++) {
                least[s] = Math.min(least[s], times[s]);
                greatest[s] = Math.max(greatest[s], times[s]);
            }
            return;
        }
        int[] q = requests[stops.get(k) / 2];
        boolean drop = stops.get(k) % 2 == 1;
        int from = k == 0 ? first + toDepot(stops.get(0)) : times[k - 1] + gap(stops, k);
        for (int time = from; time <= last; time++) {
            times[k] = time;
            boolean inside = time >= q[drop ? 8 : 6] && time <= q[drop ? 9 : 7];
            boolean soon = !drop || time - (times[stops.indexOf(stops.get(k) - 1)] + service) <= q[5];
            if (inside && soon) goOn(stops, times, k + 1);
        }
    }

    private int loadAfter(List<Integer> stops, int k) {
        int sum = 0;
        for (int r = 0; r < REQUESTS; r++) {
            int pickup = stops.indexOf(2 * r);
            if (pickup >= 0 && pickup <= k && stops.indexOf(2 * r + 1) > k) sum += requests[r][4];
        }
        return sum;
    }

    private int gap(List<Integer> stops, int k) {
        int[] a = place(stops.get(k - 1));
        int[] b = place(stops.get(k));
        return service + Math.abs(a[0] - b[0]) + Math.abs(a[1] - b[1]);
    }

    private int toDepot(int stop) {
        int[] a = place(stop);
        return Math.abs(a[0] - depotX) + Math.abs(a[1] - depotY);
    }

    private int[] place(int stop) {
        int[] q = requests[stop / 2];
        return stop % 2 == 0 ? row(q[0], q[1]) : row(q[2], q[3]);
    }
}
