import java.util.ArrayList;
import java.util.Arrays;
import java.util.List;
import java.util.Map;
import java.util.Set;
import java.util.TreeMap;
import java.util.TreeSet;
import java.util.function.Supplier;

/**
 * A call that reports an error or NONE changes nothing, nor does one that only asks. Each such call
 * is made on two objects of its own, beside two twins without it: one shows all of itself, the other
 * is undone plan by plan.
 */
public final class RefusalsTest extends Checks {
    private interface Call {
        int on(SharedRides x, int[] arguments);
    }

    private static final int[] NUMBERS = {-1, 0, 1, 3, 4, 11, 12};
    private static final int[] WHAT = {-1, 0, 1, 2, 3, 4, 5, 6, 7, 8};
    private static final int[] EITHER = {0, 1};
    private static final Set<String> ASKING = Set.of("count", "request", "vehicle", "stop", "rideTime", "depotTime",
        "cost", "best", "chainCost");

    private static final Map<String, Set<Integer>> SEEN = new TreeMap<>();

    private static Supplier<SharedRides> making;
    private static int[] twin;
    private static List<int[]> twinUndone;

    public static void main(String[] args) {
        over("a new object", SharedRides::new);
        over("vehicles alone", RefusalsTest::vehiclesAlone);
        over("requests alone", RefusalsTest::requestsAlone);
        over("nothing more fits", RefusalsTest::tight);
        over("a full history", RefusalsTest::fullHistory);
        over("all requests in one vehicle", RefusalsTest::packed);
        over("some undone", RefusalsTest::someUndone);
        due(10, fullHistory().count(5), "count(5) of a full history");
        due(4, someUndone().count(5), "count(5) of some undone");
        allErrorsSeen();
        end("refused calls change nothing");
    }

    private static SharedRides vehiclesAlone() {
        SharedRides x = new SharedRides();
        for (int v = 0; v < 4; v++) x.addVehicle(v, 0, v + 1, 0, 100);
        return x;
    }

    private static SharedRides requestsAlone() {
        SharedRides x = new SharedRides();
        for (int r = 0; r < 12; r++) x.addRequest(r, 0, 0, r, 1 + r % 8, 50);
        return x;
    }

    /** Three vehicles with time for one ride each, two of which are at work. */
    private static SharedRides tight() {
        SharedRides x = new SharedRides();
        x.addVehicle(0, 0, 3, 0, 62);
        x.addVehicle(0, 0, 2, 0, 62);
        x.addVehicle(0, 0, 1, 0, 61);
        for (int load : row(3, 2, 2, 3)) x.addRequest(10, 0, 30, 0, load, 20);
        x.assign(0);
        x.assign(1);
        return x;
    }

    /** Four vehicles, twelve requests, and more than ten plans noted. */
    private static SharedRides fullHistory() {
        SharedRides x = new SharedRides();
        for (int v = 0; v < 4; v++) x.addVehicle(10 * v, 5, 4, 0, 200);
        for (int r = 0; r < 12; r++) x.addRequest(7 * r, 3, 80 - 5 * r, 9, 1 + r % 4, 120);
        x.setService(2);
        for (int r = 0; r < 5; r++) x.assign(r);
        x.remove(1);
        x.insert(1, 3, 0, 1);
        x.remove(0);
        x.assignTo(0, 2);
        x.remove(3);
        x.assign(6);
        x.improve();
        x.chain(3);
        return x;
    }

    private static SharedRides packed() {
        SharedRides x = new SharedRides();
        for (int v = 0; v < 4; v++) x.addVehicle(v, 0, 8, 0, 5000);
        for (int r = 0; r < 12; r++) x.addRequest(50, 0, 50, 0, 8, 0);
        for (int r = 0; r < 12; r++) x.assignTo(r, 3);
        x.setWindow(0, false, 1, 5000);
        x.remove(11);
        x.assignTo(11, 3);
        return x;
    }

    private static SharedRides someUndone() {
        SharedRides x = fullHistory();
        for (int k = 0; k < 6; k++) x.undo();
        x.remove(2);
        x.undo();
        return x;
    }

    private static void over(String state, Supplier<SharedRides> maker) {
        part = "a call that reports an error or NONE changes nothing, " + state;
        making = maker;
        twin = shown(maker.get());
        twinUndone = undone(maker.get());
        changes();
        routeChanges();
        questions();
    }

    private static void changes() {
        int[] places = {0, 100};
        each("addVehicle", (x, a) -> x.addVehicle(a[0], a[1], a[2], a[3], a[4]), places, places, row(0, 1, 8, 9),
            row(-1, 0, 10), row(9, 10, 5000, 5001));
        each("addRequest", (x, a) -> x.addRequest(a[0], a[1], a[2], a[3], a[4], a[5]), places, places, places, places,
            row(0, 8, 9), row(-1, 0, 1001));
        each("setWindow", (x, a) -> x.setWindow(a[0], a[1] == 1, a[2], a[3]), NUMBERS, EITHER,
            row(-1, 0, 11, 5000, 5001), row(-1, 0, 9, 11, 5000, 5001));
        each("setLimit", (x, a) -> x.setLimit(a[0], a[1]), NUMBERS, row(LEAST, -1, 0, 19, 20, 1000, 1001, MOST));
        each("setLoad", (x, a) -> x.setLoad(a[0], a[1]), NUMBERS, row(LEAST, 0, 1, 4, 5, 8, 9, MOST));
        each("setService", (x, a) -> x.setService(a[0]), row(LEAST, -1, 0, 1, 2, 3, 10, 11, MOST));
    }

    private static void routeChanges() {
        int[] places = {-1, 0, 1, 2, 3, 9, 24, 25, 26, MOST};
        each("insert", (x, a) -> x.insert(a[0], a[1], a[2], a[3]), NUMBERS, NUMBERS, places, places);
        each("assignTo", (x, a) -> x.assignTo(a[0], a[1]), NUMBERS, NUMBERS);
        each("assign", (x, a) -> x.assign(a[0]), NUMBERS);
        each("remove", (x, a) -> x.remove(a[0]), NUMBERS);
        each("chain", (x, a) -> x.chain(a[0]), NUMBERS);
        each("improve", (x, a) -> x.improve());
        each("undo", (x, a) -> x.undo());
    }

    private static void questions() {
        int[] places = {-1, 0, 1, 2, 3, 25};
        each("count", (x, a) -> x.count(a[0]), WHAT);
        each("request", (x, a) -> x.request(a[0], a[1]), NUMBERS, WHAT);
        each("vehicle", (x, a) -> x.vehicle(a[0], a[1]), NUMBERS, WHAT);
        each("stop", (x, a) -> x.stop(a[0], a[1], a[2]), NUMBERS, places, WHAT);
        each("rideTime", (x, a) -> x.rideTime(a[0], a[1] == 1), NUMBERS, EITHER);
        each("depotTime", (x, a) -> x.depotTime(a[0], a[1] == 1), NUMBERS, EITHER);
        each("cost", (x, a) -> x.cost(a[0], a[1], a[2], a[3]), NUMBERS, NUMBERS, places, places);
        each("best", (x, a) -> x.best(a[0], a[1]), NUMBERS, NUMBERS);
        each("chainCost", (x, a) -> x.chainCost(a[0]), NUMBERS);
    }

    /** Makes a call with each choice of its arguments. */
    private static void each(String name, Call call, int[]... choices) {
        int[] arguments = new int[choices.length];
        int all = 1;
        for (int[] choice : choices) all *= choice.length;
        for (int number = 0; number < all; number++) {
            int left = number;
            for (int k = 0; k < choices.length; k++) {
                arguments[k] = choices[k][left % choices[k].length];
                left /= choices[k].length;
            }
            once(name, call, arguments);
        }
    }

    private static void once(String name, Call call, int[] arguments) {
        SharedRides x = making.get();
        int answer = call.on(x, arguments);
        if (!isRefusal(answer) && !ASKING.contains(name)) return;
        SEEN.computeIfAbsent(name, n -> new TreeSet<>()).add(isRefusal(answer) ? answer : 0);
        String text = name + Arrays.toString(arguments);
        dueRow("after " + text + ", what is shown", twin, shown(x));
        SharedRides y = making.get();
        due(answer, call.on(y, arguments), text + " of another object");
        List<int[]> plans = undone(y);
        due(twinUndone.size(), plans.size(), "after " + text + ", how many plans there are");
        for (int k = 0; k < Math.min(plans.size(), twinUndone.size()); k++) {
            dueRow("after " + text + " and " + k + " times undo(), the stops", twinUndone.get(k), plans.get(k));
        }
    }

    /** The plan at hand and all that are in the history, the latest one first. */
    private static List<int[]> undone(SharedRides x) {
        List<int[]> plans = new ArrayList<>();
        for (int k = 0; k <= 11; k++) {
            plans.add(plan(x));
            if (isRefusal(x.undo())) break;
        }
        return plans;
    }

    /** Every error of every @return line must have been met: what never comes up proves nothing. */
    private static void allErrorsSeen() {
        part = "errors that were met";
        met("addVehicle", BAD_VALUE, FULL);
        met("addRequest", BAD_VALUE, FULL);
        for (String name : List.of("setWindow", "setLimit", "setLoad")) met(name, UNKNOWN, BAD_VALUE, NOT_FEASIBLE);
        met("setService", BAD_VALUE, NOT_FEASIBLE);
        met("count", 0, BAD_VALUE);
        met("request", 0, UNKNOWN, BAD_VALUE, NONE);
        met("vehicle", 0, UNKNOWN, BAD_VALUE);
        met("stop", 0, UNKNOWN, BAD_VALUE);
        met("rideTime", 0, UNKNOWN, NOT_ASSIGNED);
        met("depotTime", 0, UNKNOWN, NONE);
        met("cost", 0, UNKNOWN, BAD_VALUE, ASSIGNED, NOT_FEASIBLE);
        met("insert", UNKNOWN, BAD_VALUE, ASSIGNED, NOT_FEASIBLE);
        met("best", 0, UNKNOWN, ASSIGNED, NONE);
        met("assignTo", UNKNOWN, ASSIGNED, NOT_FEASIBLE);
        met("assign", UNKNOWN, ASSIGNED, NOT_FEASIBLE);
        met("remove", UNKNOWN, NOT_ASSIGNED);
        met("chainCost", 0, UNKNOWN, ASSIGNED, NOT_FEASIBLE);
        met("chain", UNKNOWN, ASSIGNED, NOT_FEASIBLE);
        met("improve", NONE);
        met("undo", NONE);
    }

    /** Exactly these, with 0 for an answer that is none of them. */
    private static void met(String name, Integer... errors) {
        Set<Integer> want = new TreeSet<>(List.of(errors));
        Set<Integer> got = SEEN.getOrDefault(name, Set.of());
        if (!want.equals(got)) due(0, 1, name + " met " + got + " where " + want + " were to be met;");
    }
}
