/** Nothing there yet, nothing there any more, and no more room. */
public final class EmptyAndFullTest extends Checks {
    public static void main(String[] args) {
        newObject();
        vehiclesWithoutRequests();
        requestsWithoutVehicles();
        newVehicle();
        newRequest();
        routeWithoutStops();
        emptiedRoute();
        fourVehicles();
        twelveRequests();
        allStopsInOneRoute();
        allRidesAtOnce();
        objectsApart();
        lastOfManyCalls();
        end("what is empty or full answers as is due");
    }

    private static void newObject() {
        part = "promise 1, without vehicles and requests";
        SharedRides x = new SharedRides();
        dueRow("count", row(0, 0, 0, 0, 1, 0), x.count(0), x.count(1), x.count(2), x.count(3), x.count(4), x.count(5));
        dueRow("calls that name a request", row(UNKNOWN, UNKNOWN, UNKNOWN, UNKNOWN, UNKNOWN, UNKNOWN, UNKNOWN, UNKNOWN,
            UNKNOWN), x.setWindow(0, false, 0, 5000), x.setLimit(0, 0), x.setLoad(0, 1), x.request(0, 0),
            x.rideTime(0, false), x.assign(0), x.remove(0), x.chainCost(0), x.chain(0));
        dueRow("calls that name a vehicle", row(UNKNOWN, UNKNOWN, UNKNOWN, UNKNOWN, UNKNOWN, UNKNOWN, UNKNOWN),
            x.vehicle(0, 0), x.stop(0, 0, 0), x.depotTime(0, true), x.cost(0, 0, 0, 1), x.insert(0, 0, 0, 1),
            x.best(0, 0), x.assignTo(0, 0));
        due(NONE, x.improve(), "improve()");
        due(NONE, x.undo(), "undo()");
        due(1, x.setService(0), "setService(0)");
        due(0, x.setService(10), "setService(10)");
        due(10, x.count(4), "count(4)");
    }

    private static void vehiclesWithoutRequests() {
        part = "vehicles, but no request";
        SharedRides x = new SharedRides();
        for (int v = 0; v < 4; v++) x.addVehicle(v, v, 8, 0, 5000);
        dueRow("count", row(4, 0, 0, 0, 1, 0), x.count(0), x.count(1), x.count(2), x.count(3), x.count(4), x.count(5));
        due(UNKNOWN, x.best(0, 0), "best(0, 0)");
        due(UNKNOWN, x.assign(0), "assign(0)");
        due(UNKNOWN, x.chain(0), "chain(0)");
        due(NONE, x.depotTime(3, false), "depotTime(3, false)");
        due(NONE, x.improve(), "improve()");
        due(NONE, x.undo(), "undo()");
    }

    private static void requestsWithoutVehicles() {
        part = "requests, but no vehicle";
        SharedRides x = new SharedRides();
        for (int r = 0; r < 12; r++) x.addRequest(0, 0, 0, 0, 1, 0);
        dueRow("count", row(0, 12, 12, 0, 1, 0), x.count(0), x.count(1), x.count(2), x.count(3), x.count(4), x.count(5));
        due(NONE, x.request(11, 0), "request(11, 0)");
        due(NOT_ASSIGNED, x.rideTime(11, true), "rideTime(11, true)");
        due(UNKNOWN, x.best(11, 0), "best(11, 0)");
        due(UNKNOWN, x.assignTo(11, 0), "assignTo(11, 0)");
        due(UNKNOWN, x.cost(11, 0, 0, 1), "cost(11, 0, 0, 1)");
        due(NOT_FEASIBLE, x.assign(11), "assign(11)");
        due(NOT_FEASIBLE, x.chainCost(11), "chainCost(11)");
        due(NOT_FEASIBLE, x.chain(11), "chain(11)");
        due(NOT_ASSIGNED, x.remove(11), "remove(11)");
        due(NONE, x.improve(), "improve()");
        due(NONE, x.undo(), "undo()");
    }

    private static void newVehicle() {
        part = "promise 2, vehicles are numbered from 0";
        SharedRides x = new SharedRides();
        for (int v = 0; v < 4; v++) {
            due(v, x.addVehicle(v, 9 - v, 8 - v, 10 * v, 1000 + v), "addVehicle");
            due(v + 1, x.count(0), "count(0)");
            dueRow("vehicle(" + v + ")", row(8 - v, 10 * v, 1000 + v, 0, 0, 0, 0), x.vehicle(v, 0), x.vehicle(v, 1),
                x.vehicle(v, 2), x.vehicle(v, 3), x.vehicle(v, 4), x.vehicle(v, 5), x.vehicle(v, 6));
            due(UNKNOWN, x.vehicle(v + 1, 0), "vehicle(" + (v + 1) + ", 0)");
        }
        for (int v = 0; v < 4; v++) due(8 - v, x.vehicle(v, 0), "vehicle(" + v + ", 0) after all");
    }

    private static void newRequest() {
        part = "promise 3, requests are numbered from 0, open, with windows from 0 to 5000";
        SharedRides x = new SharedRides();
        x.addVehicle(0, 0, 8, 0, 5000);
        for (int r = 0; r < 12; r++) {
            due(r, x.addRequest(r, 0, 0, 2, 1 + r % 8, 10 * r), "addRequest");
            due(r + 1, x.count(1), "count(1)");
            due(r + 1, x.count(2), "count(2)");
            dueRow("request(" + r + ")", row(NONE, 1 + r % 8, 10 * r, 0, 5000, 0, 5000, r + 2), x.request(r, 0),
                x.request(r, 1), x.request(r, 2), x.request(r, 3), x.request(r, 4), x.request(r, 5), x.request(r, 6),
                x.request(r, 7));
            due(UNKNOWN, x.request(r + 1, 0), "request(" + (r + 1) + ", 0)");
        }
        for (int r = 0; r < 12; r++) due(r + 2, x.request(r, 7), "request(" + r + ", 7) after all");
    }

    private static void routeWithoutStops() {
        part = "the length of the route is 0 without stops, as is the greatest load; it is always feasible";
        SharedRides x = new SharedRides();
        x.addVehicle(99, 99, 1, 5000, 5000);
        x.addVehicle(0, 99, 1, 0, 0);
        for (int v = 0; v < 2; v++) {
            dueRow("vehicle(" + v + "), 3 to 6", row(0, 0, 0, 0), x.vehicle(v, 3), x.vehicle(v, 4), x.vehicle(v, 5),
                x.vehicle(v, 6));
            due(UNKNOWN, x.stop(v, 0, 0), "stop(" + v + ", 0, 0)");
            due(NONE, x.depotTime(v, false), "depotTime(" + v + ", false)");
            due(NONE, x.depotTime(v, true), "depotTime(" + v + ", true)");
        }
        due(0, x.count(3), "count(3)");
        due(1, x.setService(10), "setService(10), for which the shifts are too short");
        due(10, x.setService(0), "setService(0)");
    }

    private static void emptiedRoute() {
        part = "a route whose last request is removed";
        SharedRides x = new SharedRides();
        x.addVehicle(5, 5, 8, 10, 500);
        x.addRequest(6, 5, 7, 5, 3, 50);
        x.addRequest(6, 5, 7, 5, 4, 50);
        x.assign(0);
        x.insert(1, 0, 0, 3);
        due(7, x.vehicle(0, 5), "vehicle(0, 5)");
        due(0, x.remove(0), "remove(0)");
        due(4, x.vehicle(0, 5), "vehicle(0, 5)");
        due(UNKNOWN, x.stop(0, 2, 0), "stop(0, 2, 0)");
        due(4, x.remove(1), "remove(1)");
        dueRow("vehicle(0), 3 to 6", row(0, 0, 0, 0), x.vehicle(0, 3), x.vehicle(0, 4), x.vehicle(0, 5),
            x.vehicle(0, 6));
        due(UNKNOWN, x.stop(0, 0, 0), "stop(0, 0, 0)");
        due(NONE, x.depotTime(0, false), "depotTime(0, false)");
        due(NONE, x.depotTime(0, true), "depotTime(0, true)");
        due(NOT_ASSIGNED, x.rideTime(1, false), "rideTime(1, false)");
        due(2, x.count(2), "count(2)");
        due(NONE, x.improve(), "improve()");
        due(1, x.best(1, 0), "best(1, 0)");
    }

    private static void fourVehicles() {
        part = "promise 2, FULL if there are 4 vehicles";
        SharedRides x = new SharedRides();
        for (int v = 0; v < 3; v++) x.addVehicle(0, 0, 1, 0, 0);
        due(3, x.addVehicle(0, 0, 1, 0, 0), "addVehicle, the fourth");
        due(FULL, x.addVehicle(0, 0, 1, 0, 0), "addVehicle, the fifth");
        due(FULL, x.addVehicle(99, 99, 8, 5000, 5000), "addVehicle, the fifth");
        due(4, x.count(0), "count(0)");
        due(UNKNOWN, x.vehicle(4, 0), "vehicle(4, 0)");
        due(0, x.addRequest(0, 0, 0, 0, 1, 0), "addRequest, for which there is room");
    }

    private static void twelveRequests() {
        part = "promise 3, FULL if there are 12 requests";
        SharedRides x = new SharedRides();
        for (int r = 0; r < 11; r++) x.addRequest(0, 0, 0, 0, 1, 0);
        due(11, x.addRequest(0, 0, 0, 0, 1, 0), "addRequest, the twelfth");
        due(FULL, x.addRequest(0, 0, 0, 0, 1, 0), "addRequest, the thirteenth");
        due(FULL, x.addRequest(99, 99, 99, 99, 8, 1000), "addRequest, the thirteenth");
        due(12, x.count(1), "count(1)");
        due(12, x.count(2), "count(2)");
        due(UNKNOWN, x.request(12, 0), "request(12, 0)");
        due(0, x.addVehicle(0, 0, 1, 0, 5000), "addVehicle, for which there is room");
        x.assign(0);
        due(FULL, x.addRequest(0, 0, 0, 0, 1, 0), "addRequest with one assigned");
        x.remove(0);
        due(FULL, x.addRequest(0, 0, 0, 0, 1, 0), "addRequest with one removed");
    }

    /** Twelve rides one behind the other: 24 stops, a service minute each, and no way between them. */
    private static void allStopsInOneRoute() {
        part = "all 12 requests in one route";
        SharedRides x = new SharedRides();
        x.addVehicle(0, 0, 8, 100, 5000);
        for (int r = 0; r < 12; r++) x.addRequest(99, 99, 99, 99, 8, 0);
        for (int r = 0; r < 12; r++) due(r == 0 ? 396 : 0, x.insert(r, 0, 2 * r, 2 * r + 1), "insert");
        dueRow("vehicle(0), 3 to 6", row(24, 396, 8, 4095), x.vehicle(0, 3), x.vehicle(0, 4), x.vehicle(0, 5),
            x.vehicle(0, 6));
        for (int k = 0; k < 24; k++) {
            dueRow("stop(0, " + k + ")", row(k / 2, k % 2, 298 + k, 4778 + k, k % 2 == 0 ? 8 : 0, 0), x.stop(0, k, 0),
                x.stop(0, k, 1), x.stop(0, k, 2), x.stop(0, k, 3), x.stop(0, k, 4), x.stop(0, k, 5));
        }
        due(UNKNOWN, x.stop(0, 24, 0), "stop(0, 24, 0)");
        due(4580, x.depotTime(0, false), "depotTime(0, false)");
        due(520, x.depotTime(0, true), "depotTime(0, true)");
        due(12, x.count(1), "count(1)");
        due(0, x.count(2), "count(2)");
        due(BAD_VALUE, x.insert(11, 0, 0, 26), "insert(11, 0, 0, 26)");
        due(ASSIGNED, x.insert(11, 0, 24, 25), "insert(11, 0, 24, 25)");
        due(NONE, x.improve(), "improve()");
        for (int r = 11; r >= 0; r--) due(r == 0 ? 396 : 0, x.remove(r), "remove");
        due(12, x.count(2), "count(2)");
    }

    /** All pickups first, then all drops: eight loads of 1 fill the vehicle, and there is no room for a ninth. */
    private static void allRidesAtOnce() {
        part = "as many requests at once as the capacity allows";
        SharedRides x = new SharedRides();
        x.addVehicle(0, 0, 8, 0, 5000);
        for (int r = 0; r < 9; r++) x.addRequest(10, 0, 20, 0, 1, 1000);
        for (int r = 0; r < 8; r++) due(r == 0 ? 40 : 0, x.insert(r, 0, r, 2 * r + 1), "insert");
        due(8, x.vehicle(0, 5), "vehicle(0, 5)");
        for (int k = 0; k < 16; k++) due(k < 8 ? k + 1 : 15 - k, x.stop(0, k, 4), "stop(0, " + k + ", 4)");
        for (int i = 0; i <= 7; i++) due(NOT_FEASIBLE, x.cost(8, 0, i, 9), "cost(8, 0, " + i + ", 9)");
        due(NOT_FEASIBLE, x.cost(8, 0, 7, 10), "cost(8, 0, 7, 10)");
        due(NOT_FEASIBLE, x.cost(8, 0, 8, 9), "cost(8, 0, 8, 9)");
        due(20, x.cost(8, 0, 7, 8), "cost(8, 0, 7, 8), dropped before the eighth is picked up");
        due(20, x.cost(8, 0, 9, 10), "cost(8, 0, 9, 10), picked up after the first drop");
        due(1, x.best(8, 0), "best(8, 0), dropped before all others are picked up");
    }

    private static void objectsApart() {
        part = "an object has nothing of another one";
        SharedRides x = new SharedRides();
        SharedRides y = new SharedRides();
        x.addVehicle(1, 1, 1, 0, 500);
        x.addRequest(1, 1, 2, 2, 1, 9);
        x.setService(3);
        x.assign(0);
        dueRow("the other's count", row(0, 0, 0, 0, 1, 0), y.count(0), y.count(1), y.count(2), y.count(3), y.count(4),
            y.count(5));
        y.addVehicle(9, 9, 2, 1, 600);
        y.addRequest(9, 9, 9, 9, 2, 8);
        dueRow("the first's", row(1, 500, 1, 9, 0, 1), x.vehicle(0, 0), x.vehicle(0, 2), x.request(0, 1),
            x.request(0, 2), x.request(0, 0), x.count(5));
    }

    private static void lastOfManyCalls() {
        part = "an object is used for at most 512 calls";
        SharedRides x = new SharedRides();
        x.addVehicle(0, 0, 1, 0, 100);
        x.addRequest(10, 0, 20, 0, 1, 10);
        for (int call = 3; call <= 511; call++) {
            if (call % 2 == 1) due(40, x.assignTo(0, 0), "call " + call);
            else due(40, x.remove(0), "call " + call);
        }
        due(9, x.undo(), "call 512");
    }
}
