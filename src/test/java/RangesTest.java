import java.util.function.IntBinaryOperator;
import java.util.function.IntUnaryOperator;

/**
 * Each number that a call takes: the least and the greatest one that is allowed, the first ones
 * beyond, and ones as far out as an int goes. Each value is tried on an object of its own.
 */
public final class RangesTest extends Checks {
    public static void main(String[] args) {
        places();
        capacityAndShift();
        loadAndLimit();
        windows();
        limits();
        loads();
        serviceTime();
        whatIsAsked();
        stops();
        numbersOfNothing();
        numbersOfSome();
        numbersOfAll();
        insertionPlaces();
        end("all ranges hold");
    }

    /** An argument is taken from low to high; any other value answers the error. */
    private static void range(String call, int low, int high, int error, IntUnaryOperator answer) {
        long[] beyond = {LEAST, LEAST + 1L, low - 65536L, low - 256L, low - 2L, low - 1L,
            high + 1L, high + 2L, high + 256L, high + 65536L, MOST - 1L, MOST};
        for (long value : beyond) {
            if (value < low || value > high) due(error, answer.applyAsInt((int) value), call + " with " + value);
        }
        for (long value = low; value <= high; value = next(value, low, high)) {
            if (answer.applyAsInt((int) value) == error) due(0, error, call + " with " + value);
        }
    }

    /** A short range is gone through whole, of a long one both ends. */
    private static long next(long value, long low, long high) {
        return high - low > 1000 && value == low + 2 ? high - 2 : value + 1;
    }

    /** An argument is taken from low to high, and the object shows it then. */
    private static void kept(String call, int low, int high, IntUnaryOperator shown) {
        for (long value = low; value <= high; value = next(value, low, high)) {
            due((int) value, shown.applyAsInt((int) value), call + " with " + value + ", asked for");
        }
    }

    /** Vehicles at 0,0 and rides from 1,0 to 2,0, with room and time for all. */
    private static SharedRides with(int vehicles, int requests) {
        SharedRides x = new SharedRides();
        for (int v = 0; v < vehicles; v++) x.addVehicle(0, 0, 8, 0, 5000);
        for (int r = 0; r < requests; r++) x.addRequest(1, 0, 2, 0, 1, 1000);
        return x;
    }

    /** The same, with the first of the rides one behind the other in vehicle 0. */
    private static SharedRides riding(int vehicles, int requests, int assigned) {
        SharedRides x = with(vehicles, requests);
        for (int r = 0; r < assigned; r++) x.insert(r, 0, 2 * r, 2 * r + 1);
        return x;
    }

    private static void places() {
        part = "a place has two coordinates from 0 to 99";
        range("addVehicle, x", 0, 99, BAD_VALUE, n -> with(0, 0).addVehicle(n, 0, 1, 0, 9));
        range("addVehicle, y", 0, 99, BAD_VALUE, n -> with(0, 0).addVehicle(0, n, 1, 0, 9));
        range("addRequest, fromX", 0, 99, BAD_VALUE, n -> with(0, 0).addRequest(n, 0, 0, 0, 1, 0));
        range("addRequest, fromY", 0, 99, BAD_VALUE, n -> with(0, 0).addRequest(0, n, 0, 0, 1, 0));
        range("addRequest, toX", 0, 99, BAD_VALUE, n -> with(0, 0).addRequest(0, 0, n, 0, 1, 0));
        range("addRequest, toY", 0, 99, BAD_VALUE, n -> with(0, 0).addRequest(0, 0, 0, n, 1, 0));
        part = "the travel time is the sum of the differences of the coordinates";
        kept("addRequest, fromX", 0, 99, n -> ride(n, 0, 0, 0));
        kept("addRequest, fromY", 0, 99, n -> ride(0, n, 0, 0));
        kept("addRequest, toX", 0, 99, n -> ride(0, 0, n, 0));
        kept("addRequest, toY", 0, 99, n -> ride(0, 0, 0, n));
        dueRow("rides from corner to corner", row(198, 198, 198, 198, 0, 99), ride(0, 0, 99, 99), ride(99, 99, 0, 0),
            ride(0, 99, 99, 0), ride(99, 0, 0, 99), ride(99, 99, 99, 99), ride(99, 0, 99, 99));
        kept("addVehicle, x", 0, 99, n -> wayFromDepot(n, 0));
        kept("addVehicle, y", 0, 99, n -> wayFromDepot(0, n));
        due(198, wayFromDepot(99, 99), "way from depot 99,99 to 0,0");
    }

    private static int ride(int fromX, int fromY, int toX, int toY) {
        SharedRides x = new SharedRides();
        x.addRequest(fromX, fromY, toX, toY, 1, 0);
        return x.request(0, 7);
    }

    private static int wayFromDepot(int depotX, int depotY) {
        SharedRides x = new SharedRides();
        x.addVehicle(depotX, depotY, 1, 0, 5000);
        x.addRequest(0, 0, 0, 0, 1, 0);
        x.assign(0);
        return x.count(3) / 2;
    }

    private static void capacityAndShift() {
        part = "promise 2, capacity: 1 to 8";
        range("addVehicle, capacity", 1, 8, BAD_VALUE, n -> with(0, 0).addVehicle(0, 0, n, 0, 9));
        kept("addVehicle, capacity", 1, 8, n -> vehicle(n, 0, 9, 0));
        part = "promise 2, first: 0 to 5000";
        range("addVehicle, first", 0, 5000, BAD_VALUE, n -> with(0, 0).addVehicle(0, 0, 1, n, 5000));
        kept("addVehicle, first", 0, 5000, n -> vehicle(1, n, 5000, 1));
        part = "promise 2, last: first to 5000";
        for (int first : row(0, 1, 7, 4999, 5000)) {
            range("addVehicle, last from " + first, first, 5000, BAD_VALUE,
                n -> with(0, 0).addVehicle(0, 0, 1, first, n));
            kept("addVehicle, last from " + first, first, 5000, n -> vehicle(1, first, n, 2));
        }
        range("addVehicle, first up to last", 0, 7, BAD_VALUE, n -> with(0, 0).addVehicle(0, 0, 1, n, 7));
    }

    private static int vehicle(int capacity, int first, int last, int what) {
        SharedRides x = new SharedRides();
        x.addVehicle(0, 0, capacity, first, last);
        return x.vehicle(0, what);
    }

    private static void loadAndLimit() {
        part = "promise 3, load: 1 to 8";
        range("addRequest, load", 1, 8, BAD_VALUE, n -> with(0, 0).addRequest(0, 0, 0, 0, n, 0));
        kept("addRequest, load", 1, 8, n -> request(n, 0, 1));
        part = "promise 3, ride limit: 0 to 1000";
        range("addRequest, limit", 0, 1000, BAD_VALUE, n -> with(0, 0).addRequest(0, 0, 0, 0, 1, n));
        kept("addRequest, limit", 0, 1000, n -> request(1, n, 2));
        part = "promise 3, windows from 0 to 5000, open";
        dueRow("request(0)", row(NONE, 0, 5000, 0, 5000), request(1, 0, 0), request(1, 0, 3), request(1, 0, 4),
            request(1, 0, 5), request(1, 0, 6));
    }

    private static int request(int load, int limit, int what) {
        SharedRides x = new SharedRides();
        x.addRequest(0, 0, 0, 0, load, limit);
        return x.request(0, what);
    }

    private static void windows() {
        for (boolean drop : new boolean[] {false, true}) {
            String call = "setWindow, " + (drop ? "drop" : "pickup");
            part = "promise 4, first: 0 to 5000";
            range(call + ", first", 0, 5000, BAD_VALUE, n -> with(0, 1).setWindow(0, drop, n, 5000));
            kept(call + ", first", 0, 5000, n -> window(drop, n, 5000, drop ? 5 : 3));
            range(call + ", first up to last", 0, 7, BAD_VALUE, n -> with(0, 1).setWindow(0, drop, n, 7));
            part = "promise 4, last: first to 5000";
            for (int first : row(0, 1, 7, 4999, 5000)) {
                range(call + ", last from " + first, first, 5000, BAD_VALUE,
                    n -> with(0, 1).setWindow(0, drop, first, n));
                kept(call + ", last from " + first, first, 5000, n -> window(drop, first, n, drop ? 6 : 4));
            }
            part = "promise 4, a window is set for the pickup or the drop";
            due(drop ? 0 : 7, window(drop, 7, 8, 3), call + ", request(0, 3)");
            due(drop ? 5000 : 8, window(drop, 7, 8, 4), call + ", request(0, 4)");
            due(drop ? 7 : 0, window(drop, 7, 8, 5), call + ", request(0, 5)");
            due(drop ? 8 : 5000, window(drop, 7, 8, 6), call + ", request(0, 6)");
        }
    }

    private static int window(boolean drop, int first, int last, int what) {
        SharedRides x = with(0, 1);
        x.setWindow(0, drop, first, last);
        return x.request(0, what);
    }

    private static void limits() {
        part = "promise 5, limit: 0 to 1000";
        range("setLimit", 0, 1000, BAD_VALUE, n -> with(0, 1).setLimit(0, n));
        kept("setLimit", 0, 1000, n -> {
            SharedRides x = with(0, 1);
            x.setLimit(0, n);
            return x.request(0, 2);
        });
        part = "promise 5, returns the previous limit";
        kept("setLimit, twice", 0, 1000, n -> {
            SharedRides x = with(0, 1);
            x.setLimit(0, n);
            return x.setLimit(0, 1000 - n);
        });
    }

    private static void loads() {
        part = "promise 6, load: 1 to 8";
        range("setLoad", 1, 8, BAD_VALUE, n -> with(0, 1).setLoad(0, n));
        kept("setLoad", 1, 8, n -> {
            SharedRides x = with(0, 1);
            x.setLoad(0, n);
            return x.request(0, 1);
        });
        part = "promise 6, returns the previous load";
        kept("setLoad, twice", 1, 8, n -> {
            SharedRides x = with(0, 1);
            x.setLoad(0, n);
            return x.setLoad(0, 9 - n);
        });
    }

    private static void serviceTime() {
        part = "promise 7, service time: 0 to 10";
        range("setService", 0, 10, BAD_VALUE, n -> with(0, 0).setService(n));
        kept("setService", 0, 10, n -> {
            SharedRides x = with(0, 0);
            x.setService(n);
            return x.count(4);
        });
        part = "promise 7, returns the previous one, 1 at first";
        due(1, with(0, 0).setService(7), "setService(7)");
        kept("setService, twice", 0, 10, n -> {
            SharedRides x = with(0, 0);
            x.setService(n);
            return x.setService(10 - n);
        });
    }

    private static void whatIsAsked() {
        part = "promise 8, what: 0 to 5";
        range("count", 0, 5, BAD_VALUE, n -> riding(1, 2, 1).count(n));
        range("count of a new object", 0, 5, BAD_VALUE, n -> new SharedRides().count(n));
        part = "promise 9, what: 0 to 7";
        range("request, open", 0, 7, BAD_VALUE, n -> riding(1, 2, 1).request(1, n));
        range("request, assigned", 0, 7, BAD_VALUE, n -> riding(1, 2, 1).request(0, n));
        part = "promise 10, what: 0 to 6";
        range("vehicle", 0, 6, BAD_VALUE, n -> riding(2, 1, 1).vehicle(0, n));
        range("vehicle without stops", 0, 6, BAD_VALUE, n -> riding(2, 1, 1).vehicle(1, n));
        part = "promise 11, what: 0 to 5";
        for (int k = 0; k < 4; k++) {
            int stop = k;
            range("stop " + k, 0, 5, BAD_VALUE, n -> riding(1, 2, 2).stop(0, stop, n));
        }
    }

    private static void stops() {
        part = "promise 11, UNKNOWN also if there is no such stop";
        for (int assigned = 0; assigned <= 12; assigned++) {
            int rides = assigned;
            for (int what = 0; what < 6; what++) {
                int asked = what;
                range("stop(0, k, " + what + ") of " + 2 * rides, 0, 2 * rides - 1, UNKNOWN,
                    k -> riding(1, 12, rides).stop(0, k, asked));
            }
        }
        range("stop(1, k, 0) without stops", 0, -1, UNKNOWN, k -> riding(2, 1, 1).stop(1, k, 0));
    }

    private static void numbersOfNothing() {
        part = "UNKNOWN: nothing there yet";
        requestNumbers(0, 0);
        requestNumbers(4, 0);
        vehicleNumbers(0, 12);
        part = "UNKNOWN: a request, but no vehicle; a vehicle, but no request";
        vehicleNumbers(0, 1);
        requestNumbers(1, 0);
    }

    private static void numbersOfSome() {
        part = "UNKNOWN: numbers behind the last one";
        requestNumbers(1, 1);
        vehicleNumbers(1, 1);
        requestNumbers(4, 3);
        vehicleNumbers(2, 12);
        vehicleNumbers(3, 1);
    }

    private static void numbersOfAll() {
        part = "UNKNOWN: numbers behind 4 vehicles and 12 requests";
        requestNumbers(4, 12);
        vehicleNumbers(4, 12);
        requestNumbers(0, 12);
        vehicleNumbers(4, 1);
    }

    /** Every call that names a request, with as many vehicles and requests. */
    private static void requestNumbers(int vehicles, int requests) {
        int top = requests - 1;
        range("setWindow, pickup", 0, top, UNKNOWN, n -> with(vehicles, requests).setWindow(n, false, 1, 2));
        range("setWindow, drop", 0, top, UNKNOWN, n -> with(vehicles, requests).setWindow(n, true, 1, 2));
        range("setLimit", 0, top, UNKNOWN, n -> with(vehicles, requests).setLimit(n, 1));
        range("setLoad", 0, top, UNKNOWN, n -> with(vehicles, requests).setLoad(n, 2));
        range("request", 0, top, UNKNOWN, n -> with(vehicles, requests).request(n, 0));
        range("rideTime", 0, top, UNKNOWN, n -> with(vehicles, requests).rideTime(n, false));
        range("rideTime, latest", 0, top, UNKNOWN, n -> with(vehicles, requests).rideTime(n, true));
        range("assign", 0, top, UNKNOWN, n -> with(vehicles, requests).assign(n));
        range("remove", 0, top, UNKNOWN, n -> with(vehicles, requests).remove(n));
        range("chainCost", 0, top, UNKNOWN, n -> with(vehicles, requests).chainCost(n));
        range("chain", 0, top, UNKNOWN, n -> with(vehicles, requests).chain(n));
        if (vehicles > 0) {
            range("cost", 0, top, UNKNOWN, n -> with(vehicles, requests).cost(n, 0, 0, 1));
            range("insert", 0, top, UNKNOWN, n -> with(vehicles, requests).insert(n, 0, 0, 1));
            range("best", 0, top, UNKNOWN, n -> with(vehicles, requests).best(n, 0));
            range("assignTo", 0, top, UNKNOWN, n -> with(vehicles, requests).assignTo(n, 0));
        }
    }

    /** Every call that names a vehicle, with as many vehicles and requests. */
    private static void vehicleNumbers(int vehicles, int requests) {
        int top = vehicles - 1;
        range("vehicle", 0, top, UNKNOWN, n -> with(vehicles, requests).vehicle(n, 0));
        range("stop", 0, top, UNKNOWN, n -> {
            SharedRides x = with(vehicles, requests);
            x.assignTo(0, n);
            return x.stop(n, 0, 0);
        });
        range("depotTime", 0, top, UNKNOWN, n -> with(vehicles, requests).depotTime(n, false));
        range("depotTime, arrival", 0, top, UNKNOWN, n -> with(vehicles, requests).depotTime(n, true));
        range("cost", 0, top, UNKNOWN, n -> with(vehicles, requests).cost(0, n, 0, 1));
        range("insert", 0, top, UNKNOWN, n -> with(vehicles, requests).insert(0, n, 0, 1));
        range("best", 0, top, UNKNOWN, n -> with(vehicles, requests).best(0, n));
        range("assignTo", 0, top, UNKNOWN, n -> with(vehicles, requests).assignTo(0, n));
    }

    private static void insertionPlaces() {
        for (int assigned : row(0, 1, 2, 11)) {
            insertionPlaces("cost", assigned, (i, j) -> riding(1, 12, assigned).cost(assigned, 0, i, j));
            insertionPlaces("insert", assigned, (i, j) -> riding(1, 12, assigned).insert(assigned, 0, i, j));
        }
        part = "promises 14 and 15, BAD_VALUE if i is negative, or j is out of range: a route with all requests";
        for (int i : row(-1, 0, 23, 24, 25)) {
            range("cost(0, 0, " + i + ", j) of all", i + 1, i < 0 ? -1 : 25, BAD_VALUE,
                j -> riding(1, 12, 12).cost(0, 0, i, j));
        }
    }

    /** All places in a route of as many rides: i is from 0, and j from i + 1 to the number of stops plus 1. */
    private static void insertionPlaces(String call, int assigned, IntBinaryOperator answer) {
        int stops = 2 * assigned;
        part = "promises 14 and 15, BAD_VALUE if i is negative";
        for (int j = 1; j <= stops + 1; j++) {
            int drop = j;
            range(call + " of " + stops + ", i before " + j, 0, j - 1, BAD_VALUE, i -> answer.applyAsInt(i, drop));
        }
        part = "promises 14 and 15, BAD_VALUE if j is out of range: i + 1 to the number of stops plus 1";
        for (int i = 0; i <= stops; i++) {
            int pickup = i;
            range(call + " of " + stops + ", j after " + i, i + 1, stops + 1, BAD_VALUE,
                j -> answer.applyAsInt(pickup, j));
        }
        for (int i : new int[] {LEAST, LEAST + 1, -2, -1, stops + 1, stops + 2, MOST - 1, MOST}) {
            range(call + " of " + stops + ", i is " + i, 1, 0, BAD_VALUE, j -> answer.applyAsInt(i, j));
            due(BAD_VALUE, answer.applyAsInt(i, i + 1), call + " of " + stops + ", i is " + i + ", j the next");
        }
    }
}
