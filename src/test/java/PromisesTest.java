/** Each promise of DOC.md by hand: ordinary calls, the edges that it names, and wrong calls. */
public final class PromisesTest extends Checks {
    public static void main(String[] args) {
        newObject();
        addVehicle();
        addRequest();
        setWindow();
        setLimit();
        setLoad();
        setService();
        count();
        request();
        vehicle();
        stop();
        stopsThatWait();
        rideTime();
        depotTime();
        cost();
        costOfPlaces();
        insert();
        best();
        bestOfSeveral();
        assignTo();
        assign();
        remove();
        shortChain();
        cheapestShortChain();
        longChain();
        severalLongChains();
        noChain();
        improve();
        improveTies();
        undo();
        fullHouse();
        historyForgets();
        historyKeeps();
        errorsLeaveAll();
        end("all promises hold");
    }

    /** A vehicle at 0,0 with capacity 3, and request 0 from 10,0 to 30,0 with load 2, assigned. */
    private static SharedRides oneRide() {
        SharedRides x = new SharedRides();
        x.addVehicle(0, 0, 3, 0, 300);
        x.addRequest(10, 0, 30, 0, 2, 60);
        x.assign(0);
        return x;
    }

    /** Vehicles at 0,0 with these capacities, and time for one ride from 10,0 to 30,0 alone. */
    private static SharedRides narrow(int... capacities) {
        SharedRides x = new SharedRides();
        for (int capacity : capacities) x.addVehicle(0, 0, capacity, 0, 62);
        return x;
    }

    private static void ride(SharedRides x, int load) {
        x.addRequest(10, 0, 30, 0, load, 20);
    }

    private static void newObject() {
        part = "promise 1";
        SharedRides x = new SharedRides();
        for (int what = 0; what < 6; what++) due(what == 4 ? 1 : 0, x.count(what), "count " + what);
        due(UNKNOWN, x.vehicle(0, 0), "vehicle(0, 0)");
        due(UNKNOWN, x.request(0, 0), "request(0, 0)");
        due(UNKNOWN, x.assign(0), "assign(0)");
        due(NONE, x.improve(), "improve()");
        due(NONE, x.undo(), "undo()");
        SharedRides other = new SharedRides();
        other.addVehicle(1, 1, 1, 0, 1);
        due(0, x.count(0), "count(0) after another object's addVehicle");
    }

    private static void addVehicle() {
        part = "promise 2";
        SharedRides x = new SharedRides();
        int[][] bad = {{-1, 0, 1, 0, 9}, {100, 0, 1, 0, 9}, {0, -1, 1, 0, 9}, {0, 100, 1, 0, 9}, {0, 0, 0, 0, 9},
            {0, 0, 9, 0, 9}, {0, 0, 1, -1, 9}, {0, 0, 1, 10, 9}, {0, 0, 1, 0, 5001}, {0, 0, 1, 5001, 5001},
            {LEAST, 0, 1, 0, 9}, {0, MOST, 1, 0, 9}, {0, 0, LEAST, 0, 9}, {0, 0, 1, LEAST, 9}, {0, 0, 1, 0, MOST}};
        for (int[] b : bad) due(BAD_VALUE, x.addVehicle(b[0], b[1], b[2], b[3], b[4]), "addVehicle, bad");
        due(0, x.count(0), "count(0) after bad ones");
        due(0, x.addVehicle(0, 0, 1, 0, 0), "addVehicle, least");
        due(1, x.addVehicle(99, 99, 8, 5000, 5000), "addVehicle, most");
        due(2, x.addVehicle(5, 6, 4, 7, 8), "addVehicle");
        due(3, x.addVehicle(0, 99, 1, 0, 5000), "addVehicle");
        dueRow("vehicle(2)", row(4, 7, 8, 0, 0, 0, 0), x.vehicle(2, 0), x.vehicle(2, 1), x.vehicle(2, 2),
            x.vehicle(2, 3), x.vehicle(2, 4), x.vehicle(2, 5), x.vehicle(2, 6));
        due(FULL, x.addVehicle(5, 6, 4, 7, 8), "addVehicle, the fifth");
        due(BAD_VALUE, x.addVehicle(5, 6, 9, 7, 8), "addVehicle, the fifth and bad");
        due(4, x.count(0), "count(0)");
    }

    private static void addRequest() {
        part = "promise 3";
        SharedRides x = new SharedRides();
        int[][] bad = {{-1, 0, 0, 0, 1, 0}, {100, 0, 0, 0, 1, 0}, {0, -1, 0, 0, 1, 0}, {0, 100, 0, 0, 1, 0},
            {0, 0, -1, 0, 1, 0}, {0, 0, 100, 0, 1, 0}, {0, 0, 0, -1, 1, 0}, {0, 0, 0, 100, 1, 0}, {0, 0, 0, 0, 0, 0},
            {0, 0, 0, 0, 9, 0}, {0, 0, 0, 0, 1, -1}, {0, 0, 0, 0, 1, 1001}, {0, 0, 0, MOST, LEAST, MOST}};
        for (int[] b : bad) due(BAD_VALUE, x.addRequest(b[0], b[1], b[2], b[3], b[4], b[5]), "addRequest, bad");
        due(0, x.addRequest(0, 0, 99, 99, 8, 1000), "addRequest, most");
        due(1, x.addRequest(3, 4, 3, 4, 1, 0), "addRequest, least");
        dueRow("request(0)", row(NONE, 8, 1000, 0, 5000, 0, 5000, 198), x.request(0, 0), x.request(0, 1),
            x.request(0, 2), x.request(0, 3), x.request(0, 4), x.request(0, 5), x.request(0, 6), x.request(0, 7));
        for (int r = 2; r < 12; r++) due(r, x.addRequest(1, 2, 3, 4, 5, 6), "addRequest");
        due(FULL, x.addRequest(1, 2, 3, 4, 5, 6), "addRequest, the thirteenth");
        due(BAD_VALUE, x.addRequest(1, 2, 3, 4, 9, 6), "addRequest, the thirteenth and bad");
        due(12, x.count(1), "count(1)");
        due(12, x.count(2), "count(2)");
    }

    private static void setWindow() {
        part = "promise 4";
        SharedRides x = oneRide();
        due(UNKNOWN, x.setWindow(1, false, 9, 8), "setWindow(1, false, 9, 8)");
        due(UNKNOWN, x.setWindow(-1, true, 0, 1), "setWindow(-1, true, 0, 1)");
        due(BAD_VALUE, x.setWindow(0, false, -1, 8), "setWindow(0, false, -1, 8)");
        due(BAD_VALUE, x.setWindow(0, true, 9, 8), "setWindow(0, true, 9, 8)");
        due(BAD_VALUE, x.setWindow(0, true, 0, 5001), "setWindow(0, true, 0, 5001)");
        due(0, x.setWindow(0, false, 0, 5000), "setWindow(0, false, 0, 5000)");
        due(1, x.count(5), "count(5)");
        due(NOT_FEASIBLE, x.setWindow(0, false, 0, 9), "setWindow(0, false, 0, 9)");
        due(5000, x.request(0, 4), "request(0, 4)");
        due(1, x.count(5), "count(5)");
        due(1, x.setWindow(0, false, 0, 10), "setWindow(0, false, 0, 10)");
        due(0, x.count(5), "count(5)");
        due(NOT_FEASIBLE, x.setWindow(0, true, 0, 30), "setWindow(0, true, 0, 30)");
        due(1, x.setWindow(0, true, 31, 31), "setWindow(0, true, 31, 31)");
        due(0, x.setWindow(0, true, 31, 31), "setWindow(0, true, 31, 31) again");
        due(1, x.setWindow(0, true, 31, 32), "setWindow(0, true, 31, 32)");
        due(1, x.setWindow(0, true, 30, 32), "setWindow(0, true, 30, 32)");
        dueRow("request(0)", row(0, 10, 30, 32), x.request(0, 3), x.request(0, 4), x.request(0, 5), x.request(0, 6));
        due(10, x.stop(0, 0, 3), "stop(0, 0, 3)");
        due(0, x.addRequest(1, 1, 2, 2, 1, 9) - 1, "addRequest");
        due(1, x.setWindow(1, false, 5000, 5000), "setWindow of an open request");
        due(1, x.setWindow(1, true, 0, 0), "setWindow of an open request");
        due(NOT_FEASIBLE, x.assign(1), "assign(1)");
    }

    private static void setLimit() {
        part = "promise 5";
        SharedRides x = oneRide();
        due(UNKNOWN, x.setLimit(1, -1), "setLimit(1, -1)");
        due(UNKNOWN, x.setLimit(-1, 5), "setLimit(-1, 5)");
        due(BAD_VALUE, x.setLimit(0, -1), "setLimit(0, -1)");
        due(BAD_VALUE, x.setLimit(0, 1001), "setLimit(0, 1001)");
        due(60, x.setLimit(0, 60), "setLimit(0, 60)");
        due(1, x.count(5), "count(5)");
        due(NOT_FEASIBLE, x.setLimit(0, 19), "setLimit(0, 19)");
        due(60, x.request(0, 2), "request(0, 2)");
        due(1, x.count(5), "count(5)");
        due(60, x.setLimit(0, 20), "setLimit(0, 20)");
        due(0, x.count(5), "count(5)");
        due(20, x.setLimit(0, 1000), "setLimit(0, 1000)");
        due(1000, x.request(0, 2), "request(0, 2)");
        x.remove(0);
        due(1000, x.setLimit(0, 0), "setLimit(0, 0) of an open request");
        due(NOT_FEASIBLE, x.assign(0), "assign(0)");
    }

    private static void setLoad() {
        part = "promise 6";
        SharedRides x = oneRide();
        due(UNKNOWN, x.setLoad(1, 0), "setLoad(1, 0)");
        due(UNKNOWN, x.setLoad(-1, 1), "setLoad(-1, 1)");
        due(BAD_VALUE, x.setLoad(0, 0), "setLoad(0, 0)");
        due(BAD_VALUE, x.setLoad(0, 9), "setLoad(0, 9)");
        due(2, x.setLoad(0, 2), "setLoad(0, 2)");
        due(1, x.count(5), "count(5)");
        due(NOT_FEASIBLE, x.setLoad(0, 4), "setLoad(0, 4)");
        due(2, x.request(0, 1), "request(0, 1)");
        due(2, x.vehicle(0, 5), "vehicle(0, 5)");
        due(1, x.count(5), "count(5)");
        due(2, x.setLoad(0, 3), "setLoad(0, 3)");
        due(0, x.count(5), "count(5)");
        due(3, x.request(0, 1), "request(0, 1)");
        due(3, x.vehicle(0, 5), "vehicle(0, 5)");
        x.remove(0);
        due(3, x.setLoad(0, 8), "setLoad(0, 8) of an open request");
        due(NOT_FEASIBLE, x.assign(0), "assign(0)");
    }

    private static void setService() {
        part = "promise 7";
        SharedRides x = oneRide();
        due(BAD_VALUE, x.setService(-1), "setService(-1)");
        due(BAD_VALUE, x.setService(11), "setService(11)");
        due(1, x.setService(1), "setService(1)");
        due(1, x.count(5), "count(5)");
        due(1, x.setService(10), "setService(10)");
        due(0, x.count(5), "count(5)");
        dueRow("earliest", row(10, 40, 80), x.stop(0, 0, 2), x.stop(0, 1, 2), x.depotTime(0, true));
        due(20, x.rideTime(0, false), "rideTime(0, false)");
        due(10, x.setService(0), "setService(0)");
        due(1, x.addVehicle(0, 0, 2, 0, 60), "addVehicle");
        due(1, x.addRequest(10, 0, 30, 0, 1, 20), "addRequest");
        due(60, x.assignTo(1, 1), "assignTo(1, 1)");
        due(NOT_FEASIBLE, x.setService(1), "setService(1) that the second route has no time for");
        due(0, x.count(4), "count(4)");
        due(1, x.count(5), "count(5)");
        due(60, x.depotTime(1, true), "depotTime(1, true)");
    }

    private static void count() {
        part = "promise 8";
        SharedRides x = oneRide();
        x.addVehicle(50, 50, 1, 0, 5000);
        x.addRequest(50, 51, 50, 53, 1, 9);
        x.addRequest(50, 51, 50, 53, 1, 9);
        x.assignTo(1, 1);
        dueRow("count", row(2, 3, 1, 66, 1, 1), x.count(0), x.count(1), x.count(2), x.count(3), x.count(4),
            x.count(5));
        due(BAD_VALUE, x.count(-1), "count(-1)");
        due(BAD_VALUE, x.count(6), "count(6)");
        due(BAD_VALUE, x.count(LEAST), "count(LEAST)");
    }

    private static void request() {
        part = "promise 9";
        SharedRides x = oneRide();
        x.addRequest(5, 9, 2, 1, 8, 7);
        x.setWindow(1, false, 11, 12);
        x.setWindow(1, true, 13, 14);
        dueRow("request(1)", row(NONE, 8, 7, 11, 12, 13, 14, 11), x.request(1, 0), x.request(1, 1), x.request(1, 2),
            x.request(1, 3), x.request(1, 4), x.request(1, 5), x.request(1, 6), x.request(1, 7));
        due(0, x.request(0, 0), "request(0, 0)");
        due(BAD_VALUE, x.request(1, -1), "request(1, -1)");
        due(BAD_VALUE, x.request(1, 8), "request(1, 8)");
        due(UNKNOWN, x.request(2, 8), "request(2, 8)");
        due(UNKNOWN, x.request(-1, 0), "request(-1, 0)");
        due(UNKNOWN, x.request(MOST, 0), "request(MOST, 0)");
    }

    private static void vehicle() {
        part = "promise 10";
        SharedRides x = oneRide();
        x.addRequest(10, 0, 30, 5, 1, 60);
        x.addRequest(10, 0, 30, 5, 1, 60);
        x.remove(0);
        x.insert(0, 0, 0, 1);
        x.insert(2, 0, 0, 3);
        dueRow("vehicle(0)", row(3, 0, 300, 4, 70, 3, 5), x.vehicle(0, 0), x.vehicle(0, 1), x.vehicle(0, 2),
            x.vehicle(0, 3), x.vehicle(0, 4), x.vehicle(0, 5), x.vehicle(0, 6));
        due(BAD_VALUE, x.vehicle(0, -1), "vehicle(0, -1)");
        due(BAD_VALUE, x.vehicle(0, 7), "vehicle(0, 7)");
        due(UNKNOWN, x.vehicle(1, 7), "vehicle(1, 7)");
        due(UNKNOWN, x.vehicle(-1, 0), "vehicle(-1, 0)");
    }

    private static void stop() {
        part = "promise 11";
        SharedRides x = oneRide();
        x.addRequest(12, 0, 28, 0, 1, 60);
        x.insert(1, 0, 1, 2);
        // 10, 12, 28, 30: pickup 0, pickup 1, drop 1, drop 0
        int[][] want = {{0, 0, 10, 246, 2, 0}, {1, 0, 13, 249, 3, 0}, {1, 1, 30, 266, 2, 0}, {0, 1, 33, 269, 0, 0}};
        for (int k = 0; k < 4; k++) {
            dueRow("stop(0, " + k + ")", want[k], x.stop(0, k, 0), x.stop(0, k, 1), x.stop(0, k, 2), x.stop(0, k, 3),
                x.stop(0, k, 4), x.stop(0, k, 5));
        }
        due(BAD_VALUE, x.stop(0, 3, 6), "stop(0, 3, 6)");
        due(BAD_VALUE, x.stop(0, 0, -1), "stop(0, 0, -1)");
        due(UNKNOWN, x.stop(0, 4, 6), "stop(0, 4, 6)");
        due(UNKNOWN, x.stop(0, -1, 0), "stop(0, -1, 0)");
        due(UNKNOWN, x.stop(1, 0, 0), "stop(1, 0, 0)");
        due(UNKNOWN, x.stop(-1, 0, 9), "stop(-1, 0, 9)");
    }

    private static void stopsThatWait() {
        part = "promise 11, waits";
        SharedRides x = oneRide();
        x.setLimit(0, 30);
        x.setWindow(0, true, 100, 200);
        // The ride limit of 30 puts the pickup off to 69: 10 minutes are waited before the drop.
        dueRow("first", row(69, 179, 59), x.stop(0, 0, 2), x.stop(0, 0, 3), x.stop(0, 0, 5));
        dueRow("second", row(100, 200, 10), x.stop(0, 1, 2), x.stop(0, 1, 3), x.stop(0, 1, 5));
        x.setWindow(0, false, 0, 100);
        dueRow("latest", row(100, 131), x.stop(0, 0, 3), x.stop(0, 1, 3));
        due(NOT_FEASIBLE, x.setWindow(0, false, 0, 68), "setWindow(0, false, 0, 68)");
        due(1, x.setWindow(0, false, 0, 69), "setWindow(0, false, 0, 69)");
        SharedRides late = new SharedRides();
        late.addVehicle(0, 0, 1, 40, 300);
        late.addRequest(10, 0, 30, 0, 1, 60);
        late.setWindow(0, false, 55, 60);
        late.assign(0);
        due(5, late.stop(0, 0, 5), "stop(0, 0, 5) with a shift from 40");
        nestedLimits();
    }

    /** One ride limit puts a pickup off, that puts the other pickup's followers off, and so on. */
    private static void nestedLimits() {
        SharedRides x = new SharedRides();
        x.addVehicle(0, 0, 8, 0, 1000);
        for (int r = 0; r < 3; r++) x.addRequest(0, 0, 0, 0, 1, 100);
        x.setService(0);
        x.insert(0, 0, 0, 1);
        x.insert(1, 0, 1, 3);
        x.insert(2, 0, 3, 5);
        // pickups and drops: p0 p1 d0 p2 d1 d2
        x.setWindow(2, true, 400, 1000);
        x.setLimit(0, 50);
        x.setLimit(1, 40);
        x.setLimit(2, 30);
        int[] want = {280, 330, 330, 370, 370, 400};
        for (int k = 0; k < 6; k++) due(want[k], x.stop(0, k, 2), "earliest of stop " + k);
        x.setWindow(0, false, 0, 500);
        want = new int[] {500, 550, 550, 590, 590, 620};
        for (int k = 0; k < 6; k++) due(want[k], x.stop(0, k, 3), "latest of stop " + k);
        limitThatMovesOthers();
    }

    /** Windows that agree with the way, so that the ride limit alone brings stops forward. */
    private static void limitThatMovesOthers() {
        SharedRides x = new SharedRides();
        x.addVehicle(0, 0, 8, 0, 1000);
        for (int r = 0; r < 2; r++) x.addRequest(0, 0, 0, 0, 1, 50);
        x.setWindow(0, false, 0, 100);
        x.setWindow(1, false, 0, 200);
        x.setWindow(0, true, 0, 300);
        x.setWindow(1, true, 0, 400);
        x.insert(0, 0, 0, 1);
        x.insert(1, 0, 1, 3);
        int[] want = {100, 150, 151, 201};
        for (int k = 0; k < 4; k++) due(want[k], x.stop(0, k, 3), "latest of stop " + k);
    }

    /** As many vehicles and requests as there may be, all requests in one vehicle. */
    private static void fullHouse() {
        part = "full house";
        SharedRides x = new SharedRides();
        for (int v = 0; v < 4; v++) x.addVehicle(v, 0, 8, 0, 5000);
        for (int r = 0; r < 12; r++) x.addRequest(50, 0, 50, 0, 8, 0);
        for (int r = 0; r < 12; r++) due(r == 0 ? 94 : 0, x.assignTo(r, 3), "assignTo(" + r + ", 3)");
        dueRow("vehicle(3)", row(8, 0, 5000, 24, 94, 8, 4095), x.vehicle(3, 0), x.vehicle(3, 1), x.vehicle(3, 2),
            x.vehicle(3, 3), x.vehicle(3, 4), x.vehicle(3, 5), x.vehicle(3, 6));
        due(BAD_VALUE, x.cost(0, 3, 0, 26), "cost(0, 3, 0, 26)");
        due(ASSIGNED, x.cost(0, 3, 0, 25), "cost(0, 3, 0, 25)");
        due(UNKNOWN, x.stop(3, 24, 0), "stop(3, 24, 0)");
        // The best of equal insertions is before all others.
        for (int k = 0; k < 24; k++) {
            dueRow("stop(3, " + k + ")", row(11 - k / 2, k % 2, 47 + k, 4929 + k, k % 2 == 0 ? 8 : 0, 0),
                x.stop(3, k, 0), x.stop(3, k, 1), x.stop(3, k, 2), x.stop(3, k, 3), x.stop(3, k, 4), x.stop(3, k, 5));
        }
        due(118, x.depotTime(3, true), "depotTime(3, true)");
        due(NONE, x.improve(), "improve()");
        for (int r = 0; r < 12; r++) due(r == 11 ? 94 : 0, x.remove(r), "remove(" + r + ")");
        due(10, x.count(5), "count(5)");
        for (int r = 0; r < 12; r++) x.insert(r, 3, 2 * r, 2 * r + 1);
        due(24, x.vehicle(3, 3), "vehicle(3, 3)");
        due(11, x.stop(3, 23, 0), "stop(3, 23, 0)");
        x.remove(4);
        due(10096, x.chainCost(4), "chainCost(4)");
        due(99, x.chain(4), "chain(4)");
        due(2, x.request(0, 0), "request(0, 0)");
        due(4094, x.vehicle(3, 6), "vehicle(3, 6)");
    }

    private static void rideTime() {
        part = "promise 12";
        SharedRides x = oneRide();
        due(20, x.rideTime(0, false), "rideTime(0, false)");
        due(20, x.rideTime(0, true), "rideTime(0, true)");
        x.setWindow(0, false, 20, 25);
        x.setWindow(0, true, 50, 300);
        // from 20 + 1 to 50, and from 25 + 1 to 86, the limit
        due(29, x.rideTime(0, false), "rideTime(0, false)");
        due(60, x.rideTime(0, true), "rideTime(0, true)");
        x.addRequest(10, 0, 30, 0, 1, 60);
        due(NOT_ASSIGNED, x.rideTime(1, false), "rideTime(1, false)");
        due(NOT_ASSIGNED, x.rideTime(1, true), "rideTime(1, true)");
        due(UNKNOWN, x.rideTime(2, true), "rideTime(2, true)");
        due(UNKNOWN, x.rideTime(-1, false), "rideTime(-1, false)");
    }

    private static void depotTime() {
        part = "promise 13";
        SharedRides x = oneRide();
        due(238, x.depotTime(0, false), "depotTime(0, false)");
        due(62, x.depotTime(0, true), "depotTime(0, true)");
        x.setWindow(0, false, 20, 25);
        due(15, x.depotTime(0, false), "depotTime(0, false)");
        due(72, x.depotTime(0, true), "depotTime(0, true)");
        x.remove(0);
        due(NONE, x.depotTime(0, false), "depotTime(0, false)");
        due(NONE, x.depotTime(0, true), "depotTime(0, true)");
        due(UNKNOWN, x.depotTime(1, false), "depotTime(1, false)");
        due(UNKNOWN, x.depotTime(-1, true), "depotTime(-1, true)");
    }

    private static void cost() {
        part = "promise 14";
        SharedRides x = oneRide();
        x.addRequest(12, 3, 40, 0, 1, 60);
        int[][] unknown = {{2, 0, 0, 1}, {-1, 0, 0, 1}, {1, 1, 0, 1}, {1, -1, 0, 1}, {2, 0, -1, 1}, {MOST, LEAST, 0, 0}};
        for (int[] u : unknown) due(UNKNOWN, x.cost(u[0], u[1], u[2], u[3]), "cost, unknown");
        int[][] bad = {{1, -1, 0}, {1, 0, 0}, {1, 2, 1}, {1, 0, 4}, {1, 3, 4}, {1, 3, 3}, {1, MOST, LEAST},
            {1, LEAST, 1}, {1, MOST, MOST}, {0, 1, 1}};
        for (int[] b : bad) due(BAD_VALUE, x.cost(b[0], 0, b[1], b[2]), "cost, bad");
        due(ASSIGNED, x.cost(0, 0, 0, 1), "cost(0, 0, 0, 1)");
        due(26, x.cost(1, 0, 1, 3), "cost(1, 0, 1, 3)");
        due(26, x.cost(1, 0, 1, 2), "cost(1, 0, 1, 2)");
        due(66, x.cost(1, 0, 0, 1), "cost(1, 0, 0, 1)");
        due(62, x.cost(1, 0, 2, 3), "cost(1, 0, 2, 3)");
        x.setLoad(1, 2);
        due(NOT_FEASIBLE, x.cost(1, 0, 1, 3), "cost(1, 0, 1, 3) with too much load");
        due(62, x.cost(1, 0, 2, 3), "cost(1, 0, 2, 3) with load 2");
        due(1, x.count(2), "count(2)");
        due(2, x.vehicle(0, 3), "vehicle(0, 3)");
    }

    /** All places of a drop and a pickup, against lengths that are summed here. */
    private static void costOfPlaces() {
        part = "promise 14, places";
        SharedRides x = new SharedRides();
        x.addVehicle(0, 0, 8, 0, 5000);
        x.addRequest(20, 0, 50, 0, 1, 1000);
        x.addRequest(30, 10, 7, 0, 1, 1000);
        x.insert(0, 0, 0, 1);
        int[][] want = {
            {0, 1, 40 + 33 + 13 + 30 + 50 - 100}, {0, 2, 40 + 20 + 13 + 43 + 50 - 100},
            {0, 3, 40 + 20 + 30 + 43 + 7 - 100}, {1, 2, 20 + 20 + 33 + 43 + 50 - 100},
            {1, 3, 20 + 20 + 30 + 43 + 7 - 100}, {2, 3, 20 + 30 + 30 + 33 + 7 - 100}};
        for (int[] w : want) due(w[2], x.cost(1, 0, w[0], w[1]), "cost(1, 0, " + w[0] + ", " + w[1] + ")");
    }

    private static void insert() {
        part = "promise 15";
        SharedRides x = oneRide();
        x.addRequest(12, 3, 40, 0, 1, 60);
        due(UNKNOWN, x.insert(2, 0, 0, 1), "insert(2, 0, 0, 1)");
        due(UNKNOWN, x.insert(1, 1, -1, 1), "insert(1, 1, -1, 1)");
        due(BAD_VALUE, x.insert(0, 0, -1, 1), "insert(0, 0, -1, 1)");
        due(BAD_VALUE, x.insert(1, 0, 1, 4), "insert(1, 0, 1, 4)");
        due(BAD_VALUE, x.insert(1, 0, 1, 1), "insert(1, 0, 1, 1)");
        due(ASSIGNED, x.insert(0, 0, 0, 1), "insert(0, 0, 0, 1)");
        x.setWindow(1, false, 0, 20);
        due(NOT_FEASIBLE, x.insert(1, 0, 2, 3), "insert(1, 0, 2, 3)");
        due(0, x.count(5), "count(5)");
        due(26, x.insert(1, 0, 1, 3), "insert(1, 0, 1, 3)");
        due(1, x.count(5), "count(5)");
        due(0, x.request(1, 0), "request(1, 0)");
        dueRow("stops", row(0, 2, 1, 3), 2 * x.stop(0, 0, 0) + x.stop(0, 0, 1), 2 * x.stop(0, 1, 0) + x.stop(0, 1, 1),
            2 * x.stop(0, 2, 0) + x.stop(0, 2, 1), 2 * x.stop(0, 3, 0) + x.stop(0, 3, 1));
        due(86, x.count(3), "count(3)");
        x.remove(0);
        due(20, x.insert(0, 0, 0, 3) - x.vehicle(0, 4) + 106, "insert(0, 0, 0, 3)");
        due(0, x.stop(0, 0, 0), "stop(0, 0, 0)");
        due(0, x.stop(0, 3, 0), "stop(0, 3, 0)");
    }

    private static void best() {
        part = "promise 16";
        SharedRides x = oneRide();
        x.addRequest(12, 0, 40, 0, 1, 60);
        due(UNKNOWN, x.best(2, 0), "best(2, 0)");
        due(UNKNOWN, x.best(-1, 0), "best(-1, 0)");
        due(UNKNOWN, x.best(0, 1), "best(0, 1)");
        due(UNKNOWN, x.best(0, -1), "best(0, -1)");
        due(ASSIGNED, x.best(0, 0), "best(0, 0)");
        // 10 12 40 30 and 10 12 30 40 cost 20 each, 12 10 40 30 costs 24
        due(102, x.best(1, 0), "best(1, 0)");
        x.setLoad(1, 2);
        due(203, x.best(1, 0), "best(1, 0) of a load that rides alone");
        x.setLoad(1, 4);
        due(NONE, x.best(1, 0), "best(1, 0) of a load that is too great");
        due(1, x.count(2), "count(2)");
        due(60, x.count(3), "count(3)");
    }

    private static void bestOfSeveral() {
        part = "promise 16, equal costs";
        SharedRides x = oneRide();
        x.addRequest(10, 0, 30, 0, 1, 60);
        due(2, x.best(1, 0), "best(1, 0) along the same way");
        x.setWindow(0, true, 31, 32);
        due(3, x.best(1, 0), "best(1, 0), with a drop that stays the second stop or the third");
        x.setLoad(1, 2);
        due(203, x.best(1, 0), "best(1, 0), one after the other");
        SharedRides y = new SharedRides();
        y.addVehicle(7, 7, 1, 0, 5000);
        y.addRequest(7, 7, 7, 7, 1, 0);
        y.addRequest(8, 8, 9, 9, 1, 9);
        y.addRequest(7, 7, 7, 7, 1, 0);
        y.assign(0);
        y.insert(1, 0, 2, 3);
        due(1, y.best(2, 0), "best(2, 0) at the depot");
        y.setWindow(0, false, 0, 0);
        due(203, y.best(2, 0), "best(2, 0) at the depot behind the first");
        y.setWindow(2, false, 30, 5000);
        due(203, y.best(2, 0), "best(2, 0), where the others may wait");
        y.setWindow(1, true, 0, 12);
        due(405, y.best(2, 0), "best(2, 0) at the depot behind all");
    }

    private static void assignTo() {
        part = "promise 17";
        SharedRides x = oneRide();
        x.addVehicle(9, 0, 3, 0, 300);
        x.addRequest(12, 0, 40, 0, 1, 60);
        due(UNKNOWN, x.assignTo(2, 0), "assignTo(2, 0)");
        due(UNKNOWN, x.assignTo(-1, 0), "assignTo(-1, 0)");
        due(UNKNOWN, x.assignTo(0, 2), "assignTo(0, 2)");
        due(UNKNOWN, x.assignTo(0, -1), "assignTo(0, -1)");
        due(ASSIGNED, x.assignTo(0, 1), "assignTo(0, 1)");
        x.setLoad(1, 4);
        due(NOT_FEASIBLE, x.assignTo(1, 0), "assignTo(1, 0)");
        due(0, x.count(5), "count(5)");
        x.setLoad(1, 1);
        due(20, x.assignTo(1, 0), "assignTo(1, 0)");
        due(1, x.count(5), "count(5)");
        due(3, x.vehicle(0, 6), "vehicle(0, 6)");
        due(80, x.vehicle(0, 4), "vehicle(0, 4)");
        x.remove(1);
        due(62, x.assignTo(1, 1), "assignTo(1, 1)");
        due(1, x.request(1, 0), "request(1, 0)");
    }

    private static void assign() {
        part = "promise 18";
        SharedRides x = narrow(2, 2, 3);
        ride(x, 1);
        ride(x, 1);
        ride(x, 3);
        ride(x, 3);
        due(UNKNOWN, x.assign(4), "assign(4)");
        due(UNKNOWN, x.assign(-1), "assign(-1)");
        due(0, x.assign(0), "assign(0), the lowest of equal vehicles");
        due(ASSIGNED, x.assign(0), "assign(0)");
        // Two rides at once take longer than the shift.
        due(1, x.assign(1), "assign(1)");
        due(2, x.assign(2), "assign(2)");
        due(NOT_FEASIBLE, x.assign(3), "assign(3)");
        due(3, x.count(5), "count(5)");
        due(180, x.count(3), "count(3)");
        SharedRides y = oneRide();
        y.addVehicle(11, 0, 1, 0, 300);
        y.addRequest(12, 0, 40, 0, 1, 60);
        due(0, y.assign(1), "assign(1), cost 20 or 58");
        y.remove(1);
        y.remove(0);
        due(1, y.assign(1), "assign(1), cost 80 or 58");
        SharedRides none = new SharedRides();
        none.addRequest(1, 1, 2, 2, 1, 9);
        due(NOT_FEASIBLE, none.assign(0), "assign(0) without vehicles");
    }

    private static void remove() {
        part = "promise 19";
        SharedRides x = oneRide();
        x.addRequest(12, 3, 40, 0, 1, 60);
        x.insert(1, 0, 1, 3);
        due(UNKNOWN, x.remove(2), "remove(2)");
        due(UNKNOWN, x.remove(-1), "remove(-1)");
        due(0, x.remove(0), "remove(0)");
        due(2, x.vehicle(0, 3), "vehicle(0, 3)");
        due(2, x.vehicle(0, 6), "vehicle(0, 6)");
        due(NONE, x.request(0, 0), "request(0, 0)");
        due(NOT_ASSIGNED, x.remove(0), "remove(0) again");
        due(2, x.count(5), "count(5)");
        due(86, x.remove(1), "remove(1)");
        due(0, x.count(3), "count(3)");
        due(3, x.count(5), "count(5)");
    }

    private static void shortChain() {
        part = "promises 20 and 21, short";
        SharedRides x = narrow(2, 1);
        ride(x, 2);
        ride(x, 1);
        x.assign(1);
        due(UNKNOWN, x.chainCost(2), "chainCost(2)");
        due(UNKNOWN, x.chain(-1), "chain(-1)");
        due(ASSIGNED, x.chainCost(1), "chainCost(1)");
        due(ASSIGNED, x.chain(1), "chain(1)");
        due(NOT_FEASIBLE, x.assign(0), "assign(0)");
        due(10060, x.chainCost(0), "chainCost(0)");
        due(0, x.request(1, 0), "request(1, 0)");
        due(1, x.count(5), "count(5)");
        due(199, x.chain(0), "chain(0)");
        due(0, x.request(0, 0), "request(0, 0)");
        due(1, x.request(1, 0), "request(1, 0)");
        due(2, x.count(5), "count(5)");
        due(1, x.undo(), "undo()");
        due(0, x.request(1, 0), "request(1, 0)");
        due(NONE, x.request(0, 0), "request(0, 0)");
        SharedRides y = new SharedRides();
        y.addVehicle(99, 0, 2, 0, 5000);
        y.addVehicle(0, 0, 1, 0, 5000);
        ride(y, 1);
        y.addRequest(99, 0, 99, 0, 2, 0);
        y.assignTo(0, 0);
        due(10000 - 178 + 60, y.chainCost(1), "chainCost(1), negative");
        due(99, y.chain(1), "chain(1)");
        due(60, y.count(3), "count(3)");
    }

    private static void cheapestShortChain() {
        part = "promises 20 and 21, several";
        SharedRides x = new SharedRides();
        x.addVehicle(0, 0, 2, 0, 5000);
        x.addVehicle(0, 0, 2, 0, 5000);
        x.addVehicle(0, 9, 2, 0, 5000);
        for (int r = 0; r < 3; r++) x.addRequest(10, 0, 30, 0, 2, 20);
        x.addRequest(0, 0, 0, 0, 2, 0);
        x.assignTo(1, 0);
        x.assignTo(2, 1);
        // Into vehicle 0 for 60, and the other on to vehicle 1 for 40: both chains cost 40.
        due(10040, x.chainCost(0), "chainCost(0)");
        due(199, x.chain(0), "chain(0), the lower of equal ones");
        dueRow("vehicles", row(0, 1, 1), x.request(0, 0), x.request(1, 0), x.request(2, 0));
        x.undo();
        x.remove(1);
        x.assignTo(1, 2);
        // Request 1 away from the third vehicle (78) costs less than request 2 on to it.
        due(199, x.chain(3), "chain(3), the cheaper one");
        due(2, x.request(3, 0), "request(3, 0)");
    }

    private static void longChain() {
        part = "promises 20 and 21, long";
        SharedRides x = narrow(3, 2, 1);
        ride(x, 3);
        ride(x, 2);
        ride(x, 1);
        x.assignTo(1, 0);
        x.assignTo(2, 1);
        due(NOT_FEASIBLE, x.assign(0), "assign(0)");
        due(10060, x.chainCost(0), "chainCost(0)");
        due(102, x.chain(0), "chain(0)");
        dueRow("vehicles", row(0, 1, 2), x.request(0, 0), x.request(1, 0), x.request(2, 0));
        due(3, x.count(5), "count(5)");
        due(180, x.count(3), "count(3)");
        x.undo();
        dueRow("vehicles", row(NONE, 0, 1), x.request(0, 0), x.request(1, 0), x.request(2, 0));
        x.addVehicle(0, 0, 1, 0, 62);
        ride(x, 1);
        ride(x, 1);
        x.assignTo(3, 2);
        due(102, x.chain(0), "chain(0) with another free vehicle");
        due(3, x.request(2, 0), "request(2, 0)");
        longChainBackToTheFirst();
    }

    /** The second request moved may go into the vehicle that the first one left. */
    private static void longChainBackToTheFirst() {
        SharedRides x = new SharedRides();
        x.addVehicle(0, 0, 8, 0, 200);
        x.addVehicle(0, 0, 2, 0, 62);
        ride(x, 8);
        ride(x, 2);
        ride(x, 1);
        x.setWindow(0, false, 0, 20);
        x.setWindow(1, false, 0, 20);
        x.assignTo(1, 0);
        x.assignTo(2, 1);
        due(10040, x.chainCost(0), "chainCost(0), back");
        due(102, x.chain(0), "chain(0), back");
        dueRow("vehicles", row(0, 1, 0), x.request(0, 0), x.request(1, 0), x.request(2, 0));
        dueRow("requests", row(0, 2), x.stop(0, 1, 0), x.stop(0, 2, 0));
    }

    private static void severalLongChains() {
        part = "promises 20 and 21, several long";
        SharedRides x = narrow(3, 2, 2, 1);
        ride(x, 3);
        ride(x, 2);
        ride(x, 1);
        ride(x, 1);
        x.assignTo(1, 0);
        x.assignTo(2, 2);
        x.assignTo(3, 1);
        due(102, x.chain(0), "chain(0), the lower b of equal ones");
        due(2, x.request(1, 0), "request(1, 0)");
        due(3, x.request(2, 0), "request(2, 0)");
        SharedRides y = narrow(3, 2);
        y.addVehicle(0, 0, 2, 0, 92);
        y.addVehicle(0, 50, 1, 0, 200);
        ride(y, 3);
        ride(y, 2);
        ride(y, 1);
        y.addRequest(0, 40, 0, 45, 1, 20);
        y.assignTo(1, 0);
        y.assignTo(2, 1);
        y.assignTo(3, 2);
        // 3 moves from the third vehicle (90) to the fourth (20), and 1 takes its place (60).
        due(9990, y.chainCost(0), "chainCost(0), negative");
        due(103, y.chain(0), "chain(0), the cheapest");
        lowestFirstOfLongChains();
    }

    /** Two vehicles that take the new request: the lower a is moved, whatever vehicle it is in. */
    private static void lowestFirstOfLongChains() {
        SharedRides x = narrow(3, 3, 2, 1);
        ride(x, 3);
        ride(x, 2);
        ride(x, 2);
        ride(x, 1);
        x.assignTo(1, 1);
        x.assignTo(2, 0);
        x.assignTo(3, 2);
        due(10060, x.chainCost(0), "chainCost(0)");
        due(103, x.chain(0), "chain(0), the lower a of equal ones");
        dueRow("vehicles", row(1, 2, 0, 3), x.request(0, 0), x.request(1, 0), x.request(2, 0), x.request(3, 0));
    }

    private static void noChain() {
        part = "promises 20 and 21, none";
        SharedRides x = narrow(3, 3);
        for (int r = 0; r < 3; r++) ride(x, 2);
        x.assign(0);
        due(10060, x.chainCost(1), "chainCost(1)");
        x.assign(1);
        due(NOT_FEASIBLE, x.chainCost(2), "chainCost(2)");
        due(NOT_FEASIBLE, x.chain(2), "chain(2)");
        due(2, x.count(5), "count(5)");
        SharedRides one = oneRide();
        one.addRequest(10, 0, 30, 0, 1, 60);
        due(NOT_FEASIBLE, one.chainCost(1), "chainCost(1) with one vehicle");
        one.remove(0);
        due(NOT_FEASIBLE, one.chain(1), "chain(1) with nothing to move");
    }

    private static void improve() {
        part = "promise 22";
        SharedRides x = new SharedRides();
        x.addVehicle(99, 0, 8, 0, 5000);
        x.addVehicle(0, 0, 8, 0, 5000);
        x.addRequest(10, 0, 30, 0, 1, 100);
        x.addRequest(5, 0, 30, 0, 1, 100);
        x.addRequest(98, 0, 99, 0, 1, 100);
        x.assignTo(0, 0);
        x.insert(1, 0, 2, 3);
        x.assignTo(2, 1);
        // Vehicle 0 goes 99 10 30 5 30 99 (228), vehicle 1 0 98 99 0 (198).
        due(426, x.count(3), "count(3)");
        due(198, x.improve(), "improve()");
        due(0, x.request(2, 0), "request(2, 0)");
        due(4, x.count(5), "count(5)");
        // Requests 0 and 1 both make 99 10 30 5 30 98 99 less by 40: 0 is moved, before the 5.
        due(40, x.improve(), "improve()");
        dueRow("requests", row(0, 1, 0, 1, 2, 2), x.stop(0, 0, 0), x.stop(0, 1, 0), x.stop(0, 2, 0), x.stop(0, 3, 0),
            x.stop(0, 4, 0), x.stop(0, 5, 0));
        due(NONE, x.improve(), "improve() of what is best");
        due(5, x.count(5), "count(5)");
        due(188, x.count(3), "count(3)");
        SharedRides own = oneRide();
        own.addRequest(12, 0, 28, 0, 1, 60);
        own.insert(1, 0, 2, 3);
        // 10 30 12 28 is 92 long.
        due(32, own.improve(), "improve() in the same vehicle");
        due(60, own.count(3), "count(3)");
        due(0, own.request(1, 0), "request(1, 0)");
        due(1, own.undo(), "undo()");
        due(92, own.count(3), "count(3)");
    }

    private static void improveTies() {
        part = "promise 22, equal gains";
        SharedRides x = new SharedRides();
        x.addVehicle(0, 0, 1, 0, 5000);
        x.addVehicle(0, 9, 8, 0, 5000);
        x.addVehicle(0, 9, 8, 0, 5000);
        x.addRequest(0, 0, 0, 0, 1, 0);
        x.addRequest(0, 0, 0, 0, 1, 0);
        x.assignTo(1, 1);
        x.assignTo(0, 2);
        due(18, x.improve(), "improve()");
        dueRow("vehicles", row(0, 1), x.request(0, 0), x.request(1, 0));
        due(18, x.improve(), "improve()");
        dueRow("vehicles", row(0, 0), x.request(0, 0), x.request(1, 0));
        due(NONE, x.improve(), "improve()");
    }

    private static void undo() {
        part = "promise 23";
        SharedRides x = oneRide();
        x.addVehicle(1, 1, 1, 0, 5);
        due(NONE, x.undo(), "undo() after addVehicle");
        for (int k = 0; k < 13; k++) {
            if (k % 2 == 0) x.remove(0);
            else x.assign(0);
            due(Math.min(10, k + 1), x.count(5), "count(5)");
        }
        for (int k = 9; k >= 0; k--) {
            due(k, x.undo(), "undo()");
            due(k % 2 == 1 ? 0 : NONE, x.request(0, 0), "request(0, 0)");
            due(k % 2 == 1 ? 60 : 0, x.count(3), "count(3)");
        }
        due(NONE, x.undo(), "undo() of nothing");
        due(NONE, x.request(0, 0), "request(0, 0)");
        x.assign(0);
        due(0, x.undo(), "undo()");
        due(NONE, x.request(0, 0), "request(0, 0)");
    }

    private static void historyForgets() {
        part = "history, what empties it";
        for (int what = 0; what < 7; what++) {
            SharedRides x = oneRide();
            due(1, x.count(5), "count(5)");
            switch (what) {
                case 0 -> x.addVehicle(0, 0, 1, 0, 0);
                case 1 -> x.addRequest(0, 0, 0, 0, 1, 0);
                case 2 -> x.setWindow(0, false, 0, 4999);
                case 3 -> x.setWindow(0, true, 1, 5000);
                case 4 -> x.setLimit(0, 61);
                case 5 -> x.setLoad(0, 1);
                default -> x.setService(2);
            }
            due(0, x.count(5), "count(5) after change " + what);
            due(NONE, x.undo(), "undo() after change " + what);
            due(0, x.request(0, 0), "request(0, 0)");
        }
    }

    private static void historyKeeps() {
        part = "history, what does not empty it";
        SharedRides x = oneRide();
        x.addVehicle(0, 0, 9, 0, 0);
        x.addRequest(0, 0, 0, 0, 9, 0);
        x.setWindow(0, false, 0, 5000);
        x.setWindow(0, true, 0, 5000);
        x.setWindow(0, true, 0, 1);
        x.setLimit(0, 60);
        x.setLimit(0, 1);
        x.setLoad(0, 2);
        x.setLoad(0, 8);
        x.setService(1);
        x.setService(11);
        x.assign(0);
        x.assignTo(0, 0);
        x.insert(0, 0, 0, 1);
        x.cost(0, 0, 0, 1);
        x.best(0, 0);
        x.chain(0);
        x.chainCost(0);
        x.improve();
        x.remove(1);
        due(1, x.count(5), "count(5)");
        due(0, x.undo(), "undo()");
        due(NONE, x.request(0, 0), "request(0, 0)");
    }

    private static void errorsLeaveAll() {
        part = "errors change nothing";
        SharedRides x = narrow(3, 1);
        ride(x, 2);
        ride(x, 2);
        x.assign(0);
        int[] before = shortly(x);
        x.assign(1);
        x.assignTo(1, 0);
        x.assignTo(1, 1);
        x.insert(1, 0, 0, 1);
        x.insert(1, 0, 0, 9);
        x.chain(1);
        x.remove(1);
        x.improve();
        x.setService(2);
        x.setLoad(0, 4);
        x.setLimit(0, 0);
        x.setWindow(0, false, 11, 12);
        dueRow("state", before, shortly(x));
    }

    private static int[] shortly(SharedRides x) {
        return row(x.count(0), x.count(1), x.count(2), x.count(3), x.count(4), x.count(5), x.stop(0, 0, 2),
            x.stop(0, 0, 3), x.stop(0, 1, 2), x.stop(0, 1, 3), x.request(0, 1), x.request(0, 2), x.request(0, 3),
            x.request(0, 4), x.request(0, 0), x.request(1, 0), x.vehicle(0, 6), x.vehicle(1, 6));
    }
}
