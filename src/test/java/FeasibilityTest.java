/**
 * The rules that make a route feasible, each where it is just kept and where it is missed by one
 * minute or one seat; and the earliest and the latest schedule on these edges.
 */
public final class FeasibilityTest extends Checks {
    public static void main(String[] args) {
        shiftBegins();
        gapsBetweenStops();
        serviceOfEveryStop();
        windowsOfPickups();
        windowsOfDrops();
        windowsAgainstEachOther();
        rideLimits();
        rideLimitsWithWaiting();
        greatestRideLimit();
        limitsThatCross();
        shiftEnds();
        shiftsOfNoLength();
        hourZeroAndLastMinute();
        capacities();
        loadsAfterStops();
        lessServiceTooLittle();
        serviceOfOneRouteOfTwo();
        changesAtTheEdge();
        openRequestsChangeFreely();
        waits();
        waitsBeforeLimits();
        freeTime();
        noFreeTime();
        depotTimes();
        rideTimes();
        removalsKeepRoutesFeasible();
        limitsThatPutOffOthers();
        eachRequestItsOwnValues();
        eachVehicleItsOwnShift();
        askedInAnyOrder();
        end("all rules of schedules hold");
    }

    /** A vehicle at 0,0 with this shift, and a ride from 10,0 to 30,0 with load 1 and limit 1000. */
    private static SharedRides one(int first, int last) {
        SharedRides x = new SharedRides();
        x.addVehicle(0, 0, 8, first, last);
        x.addRequest(10, 0, 30, 0, 1, 1000);
        return x;
    }

    /** One, with windows for the pickup and the drop. */
    private static SharedRides windowed(int pickupFirst, int pickupLast, int dropFirst, int dropLast) {
        SharedRides x = one(0, 5000);
        due(0, x.request(0, 3), "request(0, 3)");
        x.setWindow(0, false, pickupFirst, pickupLast);
        x.setWindow(0, true, dropFirst, dropLast);
        return x;
    }

    /** Whether request 0 can be inserted: all calls that tell must agree. */
    private static void fits(boolean want, SharedRides x, String text) {
        due(want ? 60 : NOT_FEASIBLE, x.cost(0, 0, 0, 1), text + ": cost(0, 0, 0, 1)");
        due(want ? 1 : NONE, x.best(0, 0), text + ": best(0, 0)");
        due(want ? 60 : NOT_FEASIBLE, x.insert(0, 0, 0, 1), text + ": insert(0, 0, 0, 1)");
        if (want) x.remove(0);
        due(want ? 60 : NOT_FEASIBLE, x.assignTo(0, 0), text + ": assignTo(0, 0)");
        if (want) x.remove(0);
        due(want ? 0 : NOT_FEASIBLE, x.assign(0), text + ": assign(0)");
    }

    private static void times(SharedRides x, int[] earliest, int[] latest) {
        for (int k = 0; k < earliest.length; k++) {
            due(earliest[k], x.stop(0, k, 2), "stop(0, " + k + ", 2)");
            due(latest[k], x.stop(0, k, 3), "stop(0, " + k + ", 3)");
        }
    }

    private static void shiftBegins() {
        part = "the time of the first stop is at least the first minute of the shift plus the travel time";
        for (int last : row(109, 110)) {
            SharedRides x = one(100, 5000);
            x.setWindow(0, false, 0, last);
            fits(last == 110, x, "shift from 100, pickup until " + last);
            if (last == 110) times(x, row(110, 131), row(110, 1111));
        }
        // No service comes before the first stop.
        SharedRides x = one(100, 5000);
        x.setWindow(0, false, 0, 110);
        x.setService(10);
        fits(true, x, "shift from 100, service 10");
    }

    private static void gapsBetweenStops() {
        part = "the time of each further stop is at least that of the one before, plus service and travel time";
        fits(true, windowed(10, 10, 31, 31), "drop 21 after the pickup");
        fits(false, windowed(10, 10, 30, 30), "drop 20 after the pickup");
        fits(true, windowed(40, 50, 0, 61), "drop 21 after the first minute of the pickup");
        fits(false, windowed(40, 50, 0, 60), "drop 20 after the first minute of the pickup");
    }

    private static void serviceOfEveryStop() {
        part = "each stop takes a service time, the same for all stops";
        for (int service = 0; service <= 10; service++) {
            SharedRides x = one(0, 60 + 2 * service);
            x.setService(service);
            fits(true, x, "shift of " + (60 + 2 * service) + ", service " + service);
            times(x, row(10, 30 + service), row(10, 30 + service));
            due(60 + 2 * service, x.depotTime(0, true), "depotTime(0, true)");
            due(20, x.rideTime(0, false), "rideTime(0, false)");
            SharedRides y = one(0, 59 + 2 * service);
            y.setService(service);
            fits(false, y, "shift of " + (59 + 2 * service) + ", service " + service);
        }
    }

    private static void windowsOfPickups() {
        part = "the time of each stop is within its window: the pickup";
        fits(true, windowed(0, 10, 0, 5000), "pickup until 10");
        fits(false, windowed(0, 9, 0, 5000), "pickup until 9");
        SharedRides x = windowed(77, 78, 0, 5000);
        fits(true, x, "pickup from 77 until 78");
        times(x, row(77, 98), row(78, 1079));
        x.setWindow(0, true, 99, 99);
        times(x, row(77, 99), row(78, 99));
        due(NOT_FEASIBLE, x.setWindow(0, true, 0, 97), "setWindow(0, true, 0, 97)");
        due(1, x.setWindow(0, true, 0, 98), "setWindow(0, true, 0, 98)");
        times(x, row(77, 98), row(77, 98));
    }

    private static void windowsOfDrops() {
        part = "the time of each stop is within its window: the drop";
        fits(true, windowed(0, 5000, 0, 31), "drop until 31");
        fits(false, windowed(0, 5000, 0, 30), "drop until 30");
        // 4969 + 1 + 30 is 5000, the end of the shift.
        fits(true, windowed(0, 5000, 4969, 5000), "drop from 4969");
        fits(false, windowed(0, 5000, 4970, 5000), "drop from 4970");
        SharedRides x = windowed(0, 5000, 200, 201);
        fits(true, x, "drop from 200 until 201");
        times(x, row(10, 200), row(180, 201));
    }

    private static void windowsAgainstEachOther() {
        part = "the windows of a pickup and a drop that contradict each other";
        fits(false, windowed(500, 600, 0, 499), "drop before the pickup");
        fits(false, windowed(5000, 5000, 0, 5000), "pickup at 5000");
        fits(false, windowed(0, 5000, 5000, 5000), "drop at 5000");
        fits(false, windowed(0, 5000, 0, 0), "drop at 0");
        fits(false, windowed(0, 0, 0, 5000), "pickup at 0, ten minutes away");
    }

    private static void rideLimits() {
        part = "the time of the drop minus the end of the service at the pickup is at most the ride limit";
        for (int service : row(0, 1, 10)) {
            SharedRides x = one(0, 5000);
            x.setService(service);
            x.setLimit(0, 19);
            fits(false, x, "limit 19, service " + service);
            x.setLimit(0, 20);
            fits(true, x, "limit 20, service " + service);
            due(20, x.rideTime(0, false), "rideTime(0, false)");
            due(20, x.rideTime(0, true), "rideTime(0, true)");
        }
        part = "a ride limit of 0";
        SharedRides x = new SharedRides();
        x.addVehicle(0, 0, 1, 0, 5000);
        x.addRequest(30, 0, 30, 0, 1, 0);
        fits(true, x, "limit 0, no way");
        due(0, x.rideTime(0, true), "rideTime(0, true)");
        SharedRides y = new SharedRides();
        y.addVehicle(0, 0, 1, 0, 5000);
        y.addRequest(29, 0, 30, 0, 1, 0);
        fits(false, y, "limit 0, one minute of way");
    }

    private static void rideLimitsWithWaiting() {
        part = "the ride limit counts the waiting before the drop, and the stops between";
        SharedRides x = windowed(0, 10, 50, 50);
        x.setLimit(0, 38);
        fits(false, x, "ride from 11 to 50, limit 38");
        x.setLimit(0, 39);
        fits(true, x, "ride from 11 to 50, limit 39");
        times(x, row(10, 50), row(10, 50));
        SharedRides y = one(0, 5000);
        y.addRequest(20, 0, 20, 5, 1, 1000);
        y.assign(0);
        // 10, 20, 20,5, 30: 10 + 1 + 5 + 1 + 15 minutes aboard.
        due(10, y.cost(1, 0, 1, 2), "cost(1, 0, 1, 2)");
        y.setLimit(0, 32);
        due(10, y.cost(1, 0, 1, 2), "cost(1, 0, 1, 2), limit 32");
        y.setLimit(0, 31);
        due(NOT_FEASIBLE, y.cost(1, 0, 1, 2), "cost(1, 0, 1, 2), limit 31");
    }

    private static void greatestRideLimit() {
        part = "a ride limit of 1000";
        fits(true, windowed(0, 10, 1011, 1011), "ride from 11 to 1011");
        fits(false, windowed(0, 10, 1012, 1012), "ride from 11 to 1012");
        SharedRides x = windowed(0, 5000, 1012, 5000);
        fits(true, x, "ride to 1012, with a pickup that may wait");
        times(x, row(11, 1012), row(4948, 4969));
    }

    /** The pickup of one ride is put off by its limit, which brings the other one to its limit. */
    private static void limitsThatCross() {
        part = "ride limits that hang on each other";
        SharedRides x = new SharedRides();
        x.addVehicle(0, 0, 8, 0, 5000);
        x.addRequest(0, 0, 0, 0, 1, 1000);
        x.addRequest(0, 0, 0, 0, 1, 1000);
        x.insert(0, 0, 0, 1);
        x.insert(1, 0, 1, 3);
        // p0 p1 d0 d1, a service minute each
        x.setWindow(1, true, 500, 500);
        x.setLimit(1, 100);
        x.setWindow(0, true, 0, 401);
        times(x, row(0, 399, 400, 500), row(399, 400, 401, 500));
        due(1000, x.setLimit(0, 399), "setLimit(0, 399)");
        due(NOT_FEASIBLE, x.setLimit(0, 0), "setLimit(0, 0)");
        due(399, x.setLimit(0, 1), "setLimit(0, 1), with the other pickup between");
        times(x, row(398, 399, 400, 500), row(399, 400, 401, 500));
        due(NOT_FEASIBLE, x.setWindow(0, true, 0, 399), "setWindow(0, true, 0, 399)");
        due(1, x.setWindow(0, true, 0, 400), "setWindow(0, true, 0, 400)");
        times(x, row(398, 399, 400, 500), row(398, 399, 400, 500));
        due(NOT_FEASIBLE, x.setLimit(1, 99), "setLimit(1, 99)");
        due(NOT_FEASIBLE, x.setWindow(0, false, 0, 397), "setWindow(0, false, 0, 397)");
        due(NOT_FEASIBLE, x.setWindow(1, true, 501, 501), "setWindow(1, true, 501, 501)");
        due(1, x.setWindow(0, false, 0, 398), "setWindow(0, false, 0, 398)");
    }

    private static void shiftEnds() {
        part = "the last stop, plus service and travel time to the depot, is at most the last minute of the shift";
        fits(true, one(0, 62), "shift until 62");
        fits(false, one(0, 61), "shift until 61");
        fits(true, one(4938, 5000), "shift from 4938");
        fits(false, one(4939, 5000), "shift from 4939");
        SharedRides x = one(0, 62);
        x.setWindow(0, false, 11, 5000);
        fits(false, x, "shift until 62, pickup from 11");
        SharedRides y = one(0, 63);
        y.setWindow(0, false, 11, 5000);
        fits(true, y, "shift until 63, pickup from 11");
        times(y, row(11, 32), row(11, 32));
    }

    private static void shiftsOfNoLength() {
        part = "a shift whose first minute is its last";
        for (int minute : row(0, 1, 4999, 5000)) {
            SharedRides x = new SharedRides();
            x.addVehicle(99, 0, 8, minute, minute);
            x.addRequest(99, 0, 99, 0, 8, 0);
            due(NOT_FEASIBLE, x.assign(0), "assign(0) with a service minute");
            x.setService(0);
            due(0, x.assign(0), "assign(0) without service");
            times(x, row(minute, minute), row(minute, minute));
            due(minute, x.depotTime(0, false), "depotTime(0, false)");
            due(minute, x.depotTime(0, true), "depotTime(0, true)");
            due(NOT_FEASIBLE, x.setService(1), "setService(1)");
            x.addRequest(99, 0, 99, 1, 1, 1000);
            due(NOT_FEASIBLE, x.assign(1), "assign(1), a minute away");
        }
    }

    private static void hourZeroAndLastMinute() {
        part = "times are minutes from 0 to 5000";
        SharedRides x = new SharedRides();
        x.addVehicle(0, 0, 1, 0, 5000);
        x.addRequest(0, 0, 0, 0, 1, 1000);
        x.setService(0);
        x.assign(0);
        times(x, row(0, 0), row(5000, 5000));
        due(1, x.setWindow(0, true, 5000, 5000), "setWindow(0, true, 5000, 5000)");
        times(x, row(4000, 5000), row(5000, 5000));
        due(1, x.setWindow(0, true, 0, 5000), "setWindow(0, true, 0, 5000)");
        due(1, x.setWindow(0, false, 0, 0), "setWindow(0, false, 0, 0)");
        times(x, row(0, 0), row(0, 1000));
        due(0, x.depotTime(0, false), "depotTime(0, false)");
        due(NOT_FEASIBLE, x.setWindow(0, true, 1001, 5000), "setWindow(0, true, 1001, 5000)");
        due(1, x.setWindow(0, true, 1000, 5000), "setWindow(0, true, 1000, 5000)");
        times(x, row(0, 1000), row(0, 1000));
    }

    private static void capacities() {
        part = "no load after a stop is greater than the capacity";
        for (int capacity = 1; capacity <= 8; capacity++) {
            SharedRides x = new SharedRides();
            x.addVehicle(0, 0, capacity, 0, 5000);
            x.addRequest(10, 0, 30, 0, capacity, 1000);
            fits(true, x, "load and capacity " + capacity);
            due(capacity, x.vehicle(0, 5), "vehicle(0, 5)");
            if (capacity < 8) due(NOT_FEASIBLE, x.setLoad(0, capacity + 1), "setLoad(0, " + (capacity + 1) + ")");
            x.remove(0);
            if (capacity < 8) {
                due(capacity, x.setLoad(0, capacity + 1), "setLoad of the open request");
                fits(false, x, "capacity " + capacity + ", a load greater by one");
            }
        }
    }

    private static void loadsAfterStops() {
        part = "the load after a stop: pickup at or before this stop, drop behind it";
        SharedRides x = new SharedRides();
        x.addVehicle(0, 0, 5, 0, 5000);
        x.addRequest(10, 0, 10, 0, 2, 1000);
        x.addRequest(10, 0, 10, 0, 3, 1000);
        x.addRequest(10, 0, 10, 0, 5, 1000);
        x.insert(0, 0, 0, 1);
        x.insert(1, 0, 1, 3);
        // p0 p1 d0 d1
        dueRow("stop(0, k, 4)", row(2, 5, 3, 0), x.stop(0, 0, 4), x.stop(0, 1, 4), x.stop(0, 2, 4), x.stop(0, 3, 4));
        due(5, x.vehicle(0, 5), "vehicle(0, 5)");
        for (int i = 0; i <= 4; i++) {
            for (int j = i + 1; j <= 5; j++) {
                boolean alone = j == i + 1 && (i == 0 || i == 4);
                due(alone ? 0 : NOT_FEASIBLE, x.cost(2, 0, i, j), "cost(2, 0, " + i + ", " + j + ")");
            }
        }
        due(NOT_FEASIBLE, x.setLoad(0, 3), "setLoad(0, 3)");
        due(NOT_FEASIBLE, x.setLoad(1, 4), "setLoad(1, 4)");
        due(2, x.setLoad(0, 1), "setLoad(0, 1)");
        due(3, x.setLoad(1, 4), "setLoad(1, 4) with one seat more");
        dueRow("stop(0, k, 4)", row(1, 5, 4, 0), x.stop(0, 0, 4), x.stop(0, 1, 4), x.stop(0, 2, 4), x.stop(0, 3, 4));
    }

    /** The ride begins when the service ends: less service makes it longer where the times are fixed. */
    private static void lessServiceTooLittle() {
        part = "promise 7, NOT_FEASIBLE also if the service time becomes less";
        SharedRides x = windowed(10, 10, 40, 40);
        x.setService(5);
        x.setLimit(0, 25);
        fits(true, x, "ride from 15 to 40");
        due(NOT_FEASIBLE, x.setService(4), "setService(4)");
        due(NOT_FEASIBLE, x.setService(0), "setService(0)");
        due(5, x.setService(10), "setService(10)");
        due(20, x.rideTime(0, false), "rideTime(0, false)");
        due(10, x.setService(5), "setService(5)");
        due(5, x.count(4), "count(4)");
    }

    private static void serviceOfOneRouteOfTwo() {
        part = "promise 7, NOT_FEASIBLE if a route would not be feasible then";
        for (int narrow = 0; narrow < 4; narrow++) {
            SharedRides x = new SharedRides();
            for (int v = 0; v < 4; v++) x.addVehicle(0, 0, 8, 0, v == narrow ? 66 : 500);
            for (int r = 0; r < 4; r++) {
                x.addRequest(10, 0, 30, 0, 1, 1000);
                x.assignTo(r, r);
            }
            due(NOT_FEASIBLE, x.setService(4), "setService(4), vehicle " + narrow);
            due(1, x.setService(3), "setService(3), vehicle " + narrow);
            x.remove(narrow);
            due(3, x.setService(4), "setService(4) without the ride of vehicle " + narrow);
        }
    }

    /** Each change of an assigned request, as far as the route allows it, and one further. */
    private static void changesAtTheEdge() {
        part = "promises 4 to 7, NOT_FEASIBLE if the request is assigned, and the route would not be feasible then";
        SharedRides x = one(0, 100);
        x.assign(0);
        times(x, row(10, 31), row(48, 69));
        due(NOT_FEASIBLE, x.setWindow(0, false, 49, 5000), "setWindow(0, false, 49, 5000)");
        due(1, x.setWindow(0, false, 48, 5000), "setWindow(0, false, 48, 5000)");
        due(1, x.setWindow(0, false, 0, 10), "setWindow(0, false, 0, 10)");
        due(NOT_FEASIBLE, x.setWindow(0, false, 0, 9), "setWindow(0, false, 0, 9)");
        due(NOT_FEASIBLE, x.setWindow(0, true, 70, 5000), "setWindow(0, true, 70, 5000)");
        due(1, x.setWindow(0, true, 69, 5000), "setWindow(0, true, 69, 5000)");
        due(NOT_FEASIBLE, x.setLimit(0, 57), "setLimit(0, 57)");
        due(1000, x.setLimit(0, 58), "setLimit(0, 58)");
        due(NOT_FEASIBLE, x.setService(2), "setService(2)");
        due(1, x.setWindow(0, true, 31, 31), "setWindow(0, true, 31, 31)");
        due(NOT_FEASIBLE, x.setWindow(0, true, 30, 30), "setWindow(0, true, 30, 30)");
        dueRow("request(0)", row(1, 58, 0, 10, 31, 31), x.request(0, 1), x.request(0, 2), x.request(0, 3),
            x.request(0, 4), x.request(0, 5), x.request(0, 6));
    }

    private static void openRequestsChangeFreely() {
        part = "promises 4 to 6, an open request has no route that could become infeasible";
        SharedRides x = one(0, 61);
        due(NOT_FEASIBLE, x.assign(0), "assign(0)");
        due(1, x.setWindow(0, false, 5000, 5000), "setWindow(0, false, 5000, 5000)");
        due(1, x.setWindow(0, true, 0, 0), "setWindow(0, true, 0, 0)");
        due(1000, x.setLimit(0, 0), "setLimit(0, 0)");
        due(1, x.setLoad(0, 8), "setLoad(0, 8)");
        due(1, x.setService(10), "setService(10)");
    }

    private static void waits() {
        part = "promise 11, how long the vehicle waits before the service";
        SharedRides x = windowed(25, 5000, 90, 5000);
        x.assign(0);
        // There at 10, waits 15; serves until 26, there at 46, waits 44.
        dueRow("stop(0, k, 5)", row(15, 44), x.stop(0, 0, 5), x.stop(0, 1, 5));
        x.setService(4);
        dueRow("stop(0, k, 5), service 4", row(15, 41), x.stop(0, 0, 5), x.stop(0, 1, 5));
        SharedRides y = one(7, 5000);
        y.assign(0);
        dueRow("stop(0, k, 5), no wait", row(0, 0), y.stop(0, 0, 5), y.stop(0, 1, 5));
        y.setWindow(0, false, 17, 5000);
        due(0, y.stop(0, 0, 5), "stop(0, 0, 5), window from 17");
        y.setWindow(0, false, 18, 5000);
        due(1, y.stop(0, 0, 5), "stop(0, 0, 5), window from 18");
    }

    /** Each stop has the least time that it has in any schedule, so a limit puts the pickup off no more than it must. */
    private static void waitsBeforeLimits() {
        part = "promise 11, waiting that a ride limit asks for";
        SharedRides x = windowed(0, 5000, 100, 5000);
        x.setLimit(0, 50);
        x.assign(0);
        times(x, row(49, 100), row(4948, 4969));
        dueRow("stop(0, k, 5)", row(39, 30), x.stop(0, 0, 5), x.stop(0, 1, 5));
        due(50, x.rideTime(0, false), "rideTime(0, false)");
        due(20, x.rideTime(0, true), "rideTime(0, true)");
    }

    private static void freeTime() {
        part = "the earliest schedule and the latest one";
        SharedRides x = one(0, 100);
        x.assign(0);
        times(x, row(10, 31), row(48, 69));
        x.setLimit(0, 20);
        times(x, row(10, 31), row(48, 69));
        x.setWindow(0, false, 5, 40);
        times(x, row(10, 31), row(40, 61));
        x.setLimit(0, 25);
        times(x, row(10, 31), row(40, 66));
        x.setLimit(0, 1000);
        times(x, row(10, 31), row(40, 69));
    }

    private static void noFreeTime() {
        part = "the earliest schedule is the latest one where nothing can move";
        SharedRides x = one(0, 62);
        x.assign(0);
        times(x, row(10, 31), row(10, 31));
        due(0, x.depotTime(0, false), "depotTime(0, false)");
        due(62, x.depotTime(0, true), "depotTime(0, true)");
    }

    private static void depotTimes() {
        part = "promise 13";
        SharedRides x = one(50, 200);
        x.addRequest(20, 5, 0, 0, 1, 1000);
        x.assign(0);
        x.setService(3);
        // 60 and 83, home at 116; the latest drop is at 167, the latest pickup at 144.
        dueRow("depotTime(0)", row(134, 116), x.depotTime(0, false), x.depotTime(0, true));
        x.setWindow(0, false, 70, 80);
        dueRow("depotTime(0)", row(70, 126), x.depotTime(0, false), x.depotTime(0, true));
        x.setWindow(0, true, 0, 93);
        dueRow("depotTime(0)", row(60, 126), x.depotTime(0, false), x.depotTime(0, true));
        due(NOT_FEASIBLE, x.cost(1, 0, 0, 1), "cost(1, 0, 0, 1)");
        due(10, x.insert(1, 0, 2, 3), "insert(1, 0, 2, 3)");
        // 70, 93, 111, and 139 at the depot itself, where the last service ends at 142.
        dueRow("depotTime(0)", row(60, 142), x.depotTime(0, false), x.depotTime(0, true));
    }

    private static void rideTimes() {
        part = "promise 12, the drop minus the end of the service at the pickup";
        for (int service : row(0, 1, 10)) {
            SharedRides x = windowed(30, 40, 100, 110);
            x.setService(service);
            x.assign(0);
            due(70 - service, x.rideTime(0, false), "rideTime(0, false), service " + service);
            due(70 - service, x.rideTime(0, true), "rideTime(0, true), service " + service);
            x.setWindow(0, true, 100, 100);
            due(60 - service, x.rideTime(0, true), "rideTime(0, true), service " + service);
        }
    }

    private static void removalsKeepRoutesFeasible() {
        part = "promise 19, the route stays feasible";
        SharedRides x = new SharedRides();
        x.addVehicle(0, 0, 8, 0, 68);
        for (int r = 0; r < 3; r++) x.addRequest(10, 0, 30, 0, 1, 24);
        x.insert(0, 0, 0, 1);
        x.insert(1, 0, 1, 2);
        x.insert(2, 0, 2, 3);
        // 10, 11, 12, 33, 34, 35, and home at 66
        due(66, x.depotTime(0, true), "depotTime(0, true)");
        due(NOT_FEASIBLE, x.setService(2), "setService(2)");
        due(0, x.remove(1), "remove(1)");
        times(x, row(10, 11, 32, 33), row(14, 15, 36, 37));
        due(1, x.setService(2), "setService(2)");
        due(68, x.depotTime(0, true), "depotTime(0, true)");
    }

    /** All stops are far enough apart at first; only the limit of one ride puts off its pickup, and then the next. */
    private static void limitsThatPutOffOthers() {
        part = "a pickup that is put off by its ride limit puts off the stops behind it";
        SharedRides x = new SharedRides();
        x.addVehicle(0, 0, 8, 0, 5000);
        for (int r = 0; r < 3; r++) x.addRequest(0, 0, 0, 0, 1, 1000);
        x.insert(0, 0, 0, 1);
        x.insert(1, 0, 1, 3);
        x.insert(2, 0, 2, 5);
        // p0 p1 p2 d0 d1 d2
        x.setWindow(1, false, 5, 5000);
        x.setWindow(2, false, 9, 5000);
        x.setWindow(0, true, 100, 5000);
        x.setWindow(1, true, 120, 5000);
        x.setWindow(2, true, 140, 5000);
        due(1000, x.setLimit(0, 50), "setLimit(0, 50)");
        times(x, row(49, 50, 51, 100, 120, 140), row(4994, 4995, 4996, 4997, 4998, 4999));
        part = "a drop that is brought forward by its ride limit brings forward the stops before it";
        for (int k = 0; k < 3; k++) x.setWindow(k, false, 0, 100 + 100 * k);
        for (int k = 0; k < 3; k++) x.setWindow(k, true, 100 + 20 * k, 400 + 100 * k);
        times(x, row(49, 50, 51, 100, 120, 140), row(100, 149, 150, 151, 500, 600));
    }

    /** Each number of a request in turn has the one limit, window or load that is too narrow. */
    private static void eachRequestItsOwnValues() {
        part = "each request has its own ride limit, windows and load";
        for (int r = 0; r < 12; r++) {
            SharedRides x = new SharedRides();
            x.addVehicle(0, 0, 7, 0, 5000);
            for (int k = 0; k < 12; k++) x.addRequest(10, 0, 30, 0, 7, 20);
            x.setLimit(r, 19);
            x.setWindow((r + 1) % 12, false, 0, 9);
            x.setWindow((r + 2) % 12, true, 0, 30);
            x.setLoad((r + 3) % 12, 8);
            for (int k = 0; k < 12; k++) {
                boolean shut = (k - r + 12) % 12 < 4;
                due(shut ? NOT_FEASIBLE : 60, x.cost(k, 0, 0, 1), "cost(" + k + ", 0, 0, 1), shut from " + r);
            }
            x.setLimit(r, 20);
            x.setWindow((r + 1) % 12, false, 0, 10);
            x.setWindow((r + 2) % 12, true, 0, 31);
            x.setLoad((r + 3) % 12, 7);
            for (int k = 0; k < 12; k++) due(60, x.cost(k, 0, 0, 1), "cost(" + k + ", 0, 0, 1)");
        }
    }

    private static void eachVehicleItsOwnShift() {
        part = "each vehicle has its own depot, capacity and shift";
        int[] minutes = {62, 42, 42, 42};
        for (int v = 0; v < 4; v++) {
            for (int spare = -1; spare <= 0; spare++) {
                SharedRides x = new SharedRides();
                for (int k = 0; k < v; k++) x.addVehicle(10 * k, 0, 8, 0, 41);
                x.addVehicle(10 * v, 0, 1, 100, 100 + minutes[v] + spare);
                x.addRequest(10, 0, 30, 0, 1, 20);
                due(spare < 0 ? NOT_FEASIBLE : v, x.assign(0), "assign(0) to vehicle " + v + ", minutes to spare " + spare);
                if (spare < 0) continue;
                dueRow("depotTime", row(100, 100 + minutes[v]), x.depotTime(v, false), x.depotTime(v, true));
                due(minutes[v] - 2, x.vehicle(v, 4), "vehicle(" + v + ", 4)");
                due(NOT_FEASIBLE, x.setLoad(0, 2), "setLoad(0, 2) in vehicle " + v);
            }
        }
    }

    private interface Question {
        int ask(SharedRides x);
    }

    /** Two vehicles at work, and an open request: rides of both vehicles at other times and with other loads. */
    private static SharedRides twoAtWork() {
        SharedRides x = new SharedRides();
        x.addVehicle(0, 0, 3, 0, 5000);
        x.addVehicle(40, 0, 2, 100, 600);
        x.addRequest(10, 0, 30, 0, 3, 1000);
        x.addRequest(10, 0, 30, 0, 2, 1000);
        x.addRequest(10, 0, 30, 0, 1, 1000);
        x.setWindow(0, false, 20, 30);
        x.setWindow(1, false, 150, 200);
        x.assignTo(0, 0);
        x.assignTo(1, 1);
        return x;
    }

    private static void askedInAnyOrder() {
        part = "what is asked before makes no difference";
        Question[] questions = {
            x -> x.vehicle(0, 5), x -> x.stop(0, 0, 2), x -> x.stop(0, 1, 2), x -> x.stop(0, 0, 3), x -> x.stop(0, 1, 3),
            x -> x.stop(0, 0, 4), x -> x.stop(0, 0, 5), x -> x.rideTime(0, false), x -> x.rideTime(0, true),
            x -> x.depotTime(0, false), x -> x.depotTime(0, true), x -> x.vehicle(0, 4),
            x -> x.vehicle(1, 5), x -> x.stop(1, 0, 2), x -> x.stop(1, 1, 2), x -> x.stop(1, 0, 3), x -> x.stop(1, 1, 3),
            x -> x.stop(1, 0, 4), x -> x.stop(1, 0, 5), x -> x.rideTime(1, false), x -> x.rideTime(1, true),
            x -> x.depotTime(1, false), x -> x.depotTime(1, true), x -> x.vehicle(1, 4),
            x -> x.best(2, 0), x -> x.best(2, 1), x -> x.cost(2, 1, 2, 3), x -> x.chainCost(2)};
        int[] want = {3, 20, 41, 30, 1031, 3, 10, 20, 1000, 20, 72, 60,
            2, 150, 171, 200, 589, 2, 20, 20, 388, 170, 182, 60,
            203, 1, 40, 10040};
        for (int first = 0; first < questions.length; first++) {
            for (int second = 0; second < questions.length; second++) {
                SharedRides x = twoAtWork();
                due(want[first], questions[first].ask(x), "question " + first);
                due(want[second], questions[second].ask(x), "question " + second + " after question " + first);
                x.setLimit(2, 999);
                due(want[second], questions[second].ask(x), "question " + second + " after a change");
            }
        }
    }
}
