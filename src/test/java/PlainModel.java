import java.util.ArrayList;
import java.util.Arrays;
import java.util.List;

/**
 * What DOC.md says, written down a second time as plainly as it can be: new lists for every try,
 * a graph of bounds for the schedules, and no bound on the work. Slow on purpose.
 */
final class PlainModel {
    static final int UNKNOWN = -1001, BAD_VALUE = -1002, ASSIGNED = -1003, NOT_ASSIGNED = -1004,
            NOT_FEASIBLE = -1005, FULL = -1006, NONE = -1007;

    /** A pickup or a drop. */
    private record Stop(int request, boolean drop) { }

    /** A bound: the time of 'to' is at least that of 'from' plus 'minutes'; 0 is the hour zero. */
    private record Bound(int from, int to, int minutes) { }

    private record Insertion(int vehicle, int i, int j, int cost) { }

    private record Chain(int a, int b, int cost, List<List<Stop>> plan) { }

    private static final class Vehicle {
        int x, y, capacity, first, last;
    }

    private static final class Request {
        int fromX, fromY, toX, toY, load, limit;
        int[] window = {0, 5000, 0, 5000};
    }

    private final List<Vehicle> vehicles = new ArrayList<>();
    private final List<Request> requests = new ArrayList<>();
    private List<List<Stop>> plan = new ArrayList<>();
    private final List<List<List<Stop>>> history = new ArrayList<>();
    private int service = 1;

    private static boolean in(int value, int low, int high) {
        return low <= value && value <= high;
    }

    private static boolean windowIsBad(int first, int last) {
        return !in(first, 0, 5000) || !in(last, first, 5000);
    }

    int addVehicle(int x, int y, int capacity, int first, int last) {
        if (!in(x, 0, 99) || !in(y, 0, 99) || !in(capacity, 1, 8) || windowIsBad(first, last)) return BAD_VALUE;
        if (vehicles.size() == 4) return FULL;
        Vehicle v = new Vehicle();
        v.x = x;
        v.y = y;
        v.capacity = capacity;
        v.first = first;
        v.last = last;
        vehicles.add(v);
        plan.add(new ArrayList<>());
        history.clear();
        return vehicles.size() - 1;
    }

    int addRequest(int fromX, int fromY, int toX, int toY, int load, int limit) {
        if (!in(fromX, 0, 99) || !in(fromY, 0, 99) || !in(toX, 0, 99) || !in(toY, 0, 99)) return BAD_VALUE;
        if (!in(load, 1, 8) || !in(limit, 0, 1000)) return BAD_VALUE;
        if (requests.size() == 12) return FULL;
        Request r = new Request();
        r.fromX = fromX;
        r.fromY = fromY;
        r.toX = toX;
        r.toY = toY;
        r.load = load;
        r.limit = limit;
        requests.add(r);
        history.clear();
        return requests.size() - 1;
    }

    int setWindow(int request, boolean drop, int first, int last) {
        if (!in(request, 0, requests.size() - 1)) return UNKNOWN;
        if (windowIsBad(first, last)) return BAD_VALUE;
        Request r = requests.get(request);
        int[] old = r.window;
        r.window = old.clone();
        r.window[drop ? 2 : 0] = first;
        r.window[drop ? 3 : 1] = last;
        if (!allFeasible()) {
            r.window = old;
            return NOT_FEASIBLE;
        }
        if (Arrays.equals(old, r.window)) return 0;
        history.clear();
        return 1;
    }

    int setLimit(int request, int limit) {
        if (!in(request, 0, requests.size() - 1)) return UNKNOWN;
        if (!in(limit, 0, 1000)) return BAD_VALUE;
        Request r = requests.get(request);
        int old = r.limit;
        r.limit = limit;
        if (!allFeasible()) {
            r.limit = old;
            return NOT_FEASIBLE;
        }
        if (old != limit) history.clear();
        return old;
    }

    int setLoad(int request, int load) {
        if (!in(request, 0, requests.size() - 1)) return UNKNOWN;
        if (!in(load, 1, 8)) return BAD_VALUE;
        Request r = requests.get(request);
        int old = r.load;
        r.load = load;
        if (!allFeasible()) {
            r.load = old;
            return NOT_FEASIBLE;
        }
        if (old != load) history.clear();
        return old;
    }

    int setService(int minutes) {
        if (!in(minutes, 0, 10)) return BAD_VALUE;
        int old = service;
        service = minutes;
        if (!allFeasible()) {
            service = old;
            return NOT_FEASIBLE;
        }
        if (old != minutes) history.clear();
        return old;
    }

    int count(int what) {
        int open = 0;
        for (int r = 0; r < requests.size(); r++) if (vehicleOf(plan, r) < 0) open++;
        int[] answers = {vehicles.size(), requests.size(), open, totalLength(plan), service, history.size()};
        return in(what, 0, 5) ? answers[what] : BAD_VALUE;
    }

    int request(int request, int what) {
        if (!in(request, 0, requests.size() - 1)) return UNKNOWN;
        Request r = requests.get(request);
        int vehicle = vehicleOf(plan, request);
        int ride = Math.abs(r.fromX - r.toX) + Math.abs(r.fromY - r.toY);
        int[] answers = {vehicle < 0 ? NONE : vehicle, r.load, r.limit, r.window[0], r.window[1], r.window[2],
            r.window[3], ride};
        return in(what, 0, 7) ? answers[what] : BAD_VALUE;
    }

    int vehicle(int vehicle, int what) {
        if (!in(vehicle, 0, vehicles.size() - 1)) return UNKNOWN;
        Vehicle v = vehicles.get(vehicle);
        List<Stop> route = plan.get(vehicle);
        int greatest = 0;
        int bits = 0;
        for (int k = 0; k < route.size(); k++) {
            greatest = Math.max(greatest, loadAfter(route, k));
            bits |= 1 << route.get(k).request;
        }
        int[] answers = {v.capacity, v.first, v.last, route.size(), length(vehicle, route), greatest, bits};
        return in(what, 0, 6) ? answers[what] : BAD_VALUE;
    }

    int stop(int vehicle, int k, int what) {
        if (!in(vehicle, 0, vehicles.size() - 1)) return UNKNOWN;
        List<Stop> route = plan.get(vehicle);
        if (!in(k, 0, route.size() - 1)) return UNKNOWN;
        int[] early = earliest(vehicle, route);
        int[] late = latest(vehicle, route);
        Stop s = route.get(k);
        int wait = k == 0 ? early[0] - vehicles.get(vehicle).first - fromDepot(vehicle, s)
            : early[k] - early[k - 1] - service - between(route.get(k - 1), s);
        int[] answers = {s.request, s.drop ? 1 : 0, early[k], late[k], loadAfter(route, k), wait};
        return in(what, 0, 5) ? answers[what] : BAD_VALUE;
    }

    int rideTime(int request, boolean latest) {
        if (!in(request, 0, requests.size() - 1)) return UNKNOWN;
        int vehicle = vehicleOf(plan, request);
        if (vehicle < 0) return NOT_ASSIGNED;
        List<Stop> route = plan.get(vehicle);
        int[] times = latest ? latest(vehicle, route) : earliest(vehicle, route);
        return times[route.indexOf(new Stop(request, true))] - times[route.indexOf(new Stop(request, false))] - service;
    }

    int depotTime(int vehicle, boolean arrival) {
        if (!in(vehicle, 0, vehicles.size() - 1)) return UNKNOWN;
        List<Stop> route = plan.get(vehicle);
        if (route.isEmpty()) return NONE;
        int n = route.size();
        if (arrival) return earliest(vehicle, route)[n - 1] + service + fromDepot(vehicle, route.get(n - 1));
        return latest(vehicle, route)[0] - fromDepot(vehicle, route.get(0));
    }

    int cost(int request, int vehicle, int i, int j) {
        return tryInsertion(request, vehicle, i, j, false);
    }

    int insert(int request, int vehicle, int i, int j) {
        return tryInsertion(request, vehicle, i, j, true);
    }

    private int tryInsertion(int request, int vehicle, int i, int j, boolean carryOut) {
        if (!in(request, 0, requests.size() - 1) || !in(vehicle, 0, vehicles.size() - 1)) return UNKNOWN;
        int n = plan.get(vehicle).size();
        if (i < 0 || j > n + 1 || j < i + 1L) return BAD_VALUE;
        if (vehicleOf(plan, request) >= 0) return ASSIGNED;
        List<Stop> route = with(plan.get(vehicle), request, i, j);
        if (!feasible(vehicle, route)) return NOT_FEASIBLE;
        int cost = length(vehicle, route) - length(vehicle, plan.get(vehicle));
        if (carryOut) moveTo(carriedOut(plan, request, new Insertion(vehicle, i, j, cost)));
        return cost;
    }

    int best(int request, int vehicle) {
        if (!in(request, 0, requests.size() - 1) || !in(vehicle, 0, vehicles.size() - 1)) return UNKNOWN;
        if (vehicleOf(plan, request) >= 0) return ASSIGNED;
        Insertion found = bestInto(plan, request, vehicle);
        return found == null ? NONE : 100 * found.i + found.j;
    }

    int assignTo(int request, int vehicle) {
        if (!in(request, 0, requests.size() - 1) || !in(vehicle, 0, vehicles.size() - 1)) return UNKNOWN;
        if (vehicleOf(plan, request) >= 0) return ASSIGNED;
        Insertion found = bestInto(plan, request, vehicle);
        if (found == null) return NOT_FEASIBLE;
        moveTo(carriedOut(plan, request, found));
        return found.cost;
    }

    int assign(int request) {
        if (!in(request, 0, requests.size() - 1)) return UNKNOWN;
        if (vehicleOf(plan, request) >= 0) return ASSIGNED;
        Insertion found = bestAmong(plan, request, -1);
        if (found == null) return NOT_FEASIBLE;
        moveTo(carriedOut(plan, request, found));
        return found.vehicle;
    }

    int remove(int request) {
        if (!in(request, 0, requests.size() - 1)) return UNKNOWN;
        if (vehicleOf(plan, request) < 0) return NOT_ASSIGNED;
        int before = totalLength(plan);
        moveTo(without(plan, request));
        return before - totalLength(plan);
    }

    int chainCost(int request) {
        if (!in(request, 0, requests.size() - 1)) return UNKNOWN;
        if (vehicleOf(plan, request) >= 0) return ASSIGNED;
        Chain found = bestChain(request);
        return found == null ? NOT_FEASIBLE : found.cost + 10000;
    }

    int chain(int request) {
        if (!in(request, 0, requests.size() - 1)) return UNKNOWN;
        if (vehicleOf(plan, request) >= 0) return ASSIGNED;
        Chain found = bestChain(request);
        if (found == null) return NOT_FEASIBLE;
        moveTo(found.plan);
        return 100 * found.a + found.b;
    }

    int improve() {
        int before = totalLength(plan);
        int least = before;
        List<List<Stop>> found = null;
        for (int r = 0; r < requests.size(); r++) {
            if (vehicleOf(plan, r) < 0) continue;
            List<List<Stop>> removed = without(plan, r);
            List<List<Stop>> moved = carriedOut(removed, r, bestAmong(removed, r, -1));
            if (totalLength(moved) < least) {
                least = totalLength(moved);
                found = moved;
            }
        }
        if (found == null) return NONE;
        moveTo(found);
        return before - least;
    }

    int undo() {
        if (history.isEmpty()) return NONE;
        plan = history.remove(history.size() - 1);
        return history.size();
    }

    private void moveTo(List<List<Stop>> next) {
        history.add(plan);
        if (history.size() > 10) history.remove(0);
        plan = next;
    }

    private Chain bestChain(int r) {
        Chain found = null;
        for (int a = 0; a < requests.size(); a++) {
            int v = vehicleOf(plan, a);
            if (v < 0) continue;
            List<List<Stop>> p = insertedInto(without(plan, a), r, v);
            p = p == null ? null : insertedAmong(p, a, v);
            found = better(found, a, 99, p);
        }
        if (found != null) return found;
        for (int a = 0; a < requests.size(); a++) {
            for (int b = 0; b < requests.size(); b++) {
                int v = vehicleOf(plan, a);
                int w = vehicleOf(plan, b);
                if (v < 0 || w < 0 || v == w) continue;
                List<List<Stop>> p = insertedInto(without(plan, a), r, v);
                p = p == null ? null : insertedInto(without(p, b), a, w);
                p = p == null ? null : insertedAmong(p, b, w);
                found = better(found, a, b, p);
            }
        }
        return found;
    }

    private Chain better(Chain old, int a, int b, List<List<Stop>> p) {
        if (p == null) return old;
        int cost = totalLength(p) - totalLength(plan);
        return old == null || cost < old.cost ? new Chain(a, b, cost, p) : old;
    }

    private List<List<Stop>> insertedInto(List<List<Stop>> p, int request, int vehicle) {
        Insertion found = bestInto(p, request, vehicle);
        return found == null ? null : carriedOut(p, request, found);
    }

    private List<List<Stop>> insertedAmong(List<List<Stop>> p, int request, int except) {
        Insertion found = bestAmong(p, request, except);
        return found == null ? null : carriedOut(p, request, found);
    }

    private Insertion bestInto(List<List<Stop>> p, int request, int vehicle) {
        Insertion found = null;
        List<Stop> old = p.get(vehicle);
        for (int i = 0; i <= old.size(); i++) {
            for (int j = i + 1; j <= old.size() + 1; j++) {
                List<Stop> route = with(old, request, i, j);
                int cost = length(vehicle, route) - length(vehicle, old);
                if (feasible(vehicle, route) && (found == null || cost < found.cost)) {
                    found = new Insertion(vehicle, i, j, cost);
                }
            }
        }
        return found;
    }

    private Insertion bestAmong(List<List<Stop>> p, int request, int except) {
        Insertion found = null;
        for (int v = 0; v < vehicles.size(); v++) {
            Insertion here = v == except ? null : bestInto(p, request, v);
            if (here != null && (found == null || here.cost < found.cost)) found = here;
        }
        return found;
    }

    private static List<Stop> with(List<Stop> old, int request, int i, int j) {
        List<Stop> route = new ArrayList<>(old);
        route.add(i, new Stop(request, false));
        route.add(j, new Stop(request, true));
        return route;
    }

    private static List<List<Stop>> carriedOut(List<List<Stop>> p, int request, Insertion insertion) {
        List<List<Stop>> next = new ArrayList<>(p);
        next.set(insertion.vehicle, with(p.get(insertion.vehicle), request, insertion.i, insertion.j));
        return next;
    }

    private static List<List<Stop>> without(List<List<Stop>> p, int request) {
        List<List<Stop>> next = new ArrayList<>();
        for (List<Stop> route : p) {
            List<Stop> kept = new ArrayList<>(route);
            kept.removeIf(s -> s.request == request);
            next.add(kept);
        }
        return next;
    }

    private static int vehicleOf(List<List<Stop>> p, int request) {
        for (int v = 0; v < p.size(); v++) {
            if (p.get(v).contains(new Stop(request, false))) return v;
        }
        return -1;
    }

    private int placeX(Stop s) {
        return s.drop ? requests.get(s.request).toX : requests.get(s.request).fromX;
    }

    private int placeY(Stop s) {
        return s.drop ? requests.get(s.request).toY : requests.get(s.request).fromY;
    }

    private int between(Stop a, Stop b) {
        return Math.abs(placeX(a) - placeX(b)) + Math.abs(placeY(a) - placeY(b));
    }

    private int fromDepot(int vehicle, Stop s) {
        return Math.abs(vehicles.get(vehicle).x - placeX(s)) + Math.abs(vehicles.get(vehicle).y - placeY(s));
    }

    private int length(int vehicle, List<Stop> route) {
        if (route.isEmpty()) return 0;
        int sum = fromDepot(vehicle, route.get(0)) + fromDepot(vehicle, route.get(route.size() - 1));
        for (int k = 1; k < route.size(); k++) sum += between(route.get(k - 1), route.get(k));
        return sum;
    }

    private int totalLength(List<List<Stop>> p) {
        int sum = 0;
        for (int v = 0; v < p.size(); v++) sum += length(v, p.get(v));
        return sum;
    }

    private int loadAfter(List<Stop> route, int k) {
        int sum = 0;
        for (int r = 0; r < requests.size(); r++) {
            int pickup = route.indexOf(new Stop(r, false));
            int drop = route.indexOf(new Stop(r, true));
            if (pickup >= 0 && pickup <= k && drop > k) sum += requests.get(r).load;
        }
        return sum;
    }

    private boolean allFeasible() {
        for (int v = 0; v < plan.size(); v++) if (!feasible(v, plan.get(v))) return false;
        return true;
    }

    private boolean feasible(int vehicle, List<Stop> route) {
        for (int k = 0; k < route.size(); k++) {
            if (loadAfter(route, k) > vehicles.get(vehicle).capacity) return false;
        }
        return longest(bounds(vehicle, route), route.size()) != null;
    }

    /** Every rule for a schedule as a bound; stop k is node k + 1. */
    private List<Bound> bounds(int vehicle, List<Stop> route) {
        List<Bound> all = new ArrayList<>();
        int n = route.size();
        for (int k = 0; k < n; k++) {
            Stop s = route.get(k);
            Request r = requests.get(s.request);
            all.add(new Bound(0, k + 1, r.window[s.drop ? 2 : 0]));
            all.add(new Bound(k + 1, 0, -r.window[s.drop ? 3 : 1]));
            if (k == 0) all.add(new Bound(0, 1, vehicles.get(vehicle).first + fromDepot(vehicle, s)));
            if (k > 0) all.add(new Bound(k, k + 1, service + between(route.get(k - 1), s)));
            if (k == n - 1) all.add(new Bound(n, 0, service + fromDepot(vehicle, s) - vehicles.get(vehicle).last));
            if (s.drop) all.add(new Bound(k + 1, route.indexOf(new Stop(s.request, false)) + 1, -service - r.limit));
        }
        return all;
    }

    /** The greatest sum of minutes on a way from node 0 to each node; null if there is none. */
    private static int[] longest(List<Bound> bounds, int stops) {
        int[] far = new int[stops + 1];
        Arrays.fill(far, -1000000);
        far[0] = 0;
        for (int round = 0; round <= stops + 1; round++) {
            boolean changed = false;
            for (Bound b : bounds) {
                if (far[b.from] + b.minutes > far[b.to]) {
                    far[b.to] = far[b.from] + b.minutes;
                    changed = true;
                }
            }
            if (!changed) return far;
        }
        return null;
    }

    private int[] earliest(int vehicle, List<Stop> route) {
        int[] far = longest(bounds(vehicle, route), route.size());
        return Arrays.copyOfRange(far, 1, far.length);
    }

    /** The latest schedule is the earliest one of the bounds turned round in time. */
    private int[] latest(int vehicle, List<Stop> route) {
        List<Bound> turned = new ArrayList<>();
        for (Bound b : bounds(vehicle, route)) turned.add(new Bound(b.to, b.from, b.minutes));
        int[] far = longest(turned, route.size());
        int[] times = new int[route.size()];
        for (int k = 0; k < times.length; k++) times[k] = -far[k + 1];
        return times;
    }
}
