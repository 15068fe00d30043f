/**
 * Two or more errors at once: the order of the @return line is the order of the checks; and NONE
 * is returned only if no error applies.
 */
public final class ErrorOrderTest extends Checks {
    public static void main(String[] args) {
        badBeforeFullOfVehicles();
        badBeforeFullOfRequests();
        unknownBeforeBadOfChanges();
        badBeforeNotFeasibleOfChanges();
        unknownBeforeBadOfQuestions();
        unknownBeforeNotAssigned();
        unknownBeforeNone();
        insertionsUnknownFirst();
        insertionsBadBeforeAssigned();
        insertionsBadBeforeNotFeasible();
        insertionsAssignedBeforeNotFeasible();
        bestInsertions();
        chains();
        allErrorsAtOnce();
        end("all errors are in their order");
    }

    /**
     * Request 0 is assigned to vehicle 0, which has no time for another one; request 1 fits nowhere,
     * and request 0 fits only where it is.
     */
    private static SharedRides tight() {
        SharedRides x = new SharedRides();
        x.addVehicle(0, 0, 3, 0, 62);
        x.addVehicle(0, 0, 1, 0, 62);
        x.addRequest(10, 0, 30, 0, 2, 20);
        x.addRequest(10, 0, 30, 0, 2, 20);
        x.assign(0);
        return x;
    }

    private static void badBeforeFullOfVehicles() {
        part = "promise 2, BAD_VALUE before FULL";
        SharedRides x = new SharedRides();
        for (int v = 0; v < 4; v++) due(v, x.addVehicle(1, 2, 3, 4, 5), "addVehicle");
        int[][] bad = {{-1, 2, 3, 4, 5}, {100, 2, 3, 4, 5}, {1, -1, 3, 4, 5}, {1, 100, 3, 4, 5}, {1, 2, 0, 4, 5},
            {1, 2, 9, 4, 5}, {1, 2, 3, -1, 5}, {1, 2, 3, 6, 5}, {1, 2, 3, 4, 5001}, {1, 2, 3, 5001, 5001},
            {LEAST, MOST, LEAST, MOST, LEAST}};
        for (int k = 0; k < bad.length; k++) {
            int[] b = bad[k];
            due(BAD_VALUE, x.addVehicle(b[0], b[1], b[2], b[3], b[4]), "addVehicle, full and bad number " + k);
        }
        due(FULL, x.addVehicle(1, 2, 3, 4, 5), "addVehicle, full");
    }

    private static void badBeforeFullOfRequests() {
        part = "promise 3, BAD_VALUE before FULL";
        SharedRides x = new SharedRides();
        for (int r = 0; r < 12; r++) due(r, x.addRequest(1, 2, 3, 4, 5, 6), "addRequest");
        int[][] bad = {{-1, 2, 3, 4, 5, 6}, {100, 2, 3, 4, 5, 6}, {1, -1, 3, 4, 5, 6}, {1, 100, 3, 4, 5, 6},
            {1, 2, -1, 4, 5, 6}, {1, 2, 100, 4, 5, 6}, {1, 2, 3, -1, 5, 6}, {1, 2, 3, 100, 5, 6}, {1, 2, 3, 4, 0, 6},
            {1, 2, 3, 4, 9, 6}, {1, 2, 3, 4, 5, -1}, {1, 2, 3, 4, 5, 1001}, {MOST, LEAST, MOST, LEAST, MOST, LEAST}};
        for (int k = 0; k < bad.length; k++) {
            int[] b = bad[k];
            due(BAD_VALUE, x.addRequest(b[0], b[1], b[2], b[3], b[4], b[5]), "addRequest, full and bad number " + k);
        }
        due(FULL, x.addRequest(1, 2, 3, 4, 5, 6), "addRequest, full");
    }

    private static void unknownBeforeBadOfChanges() {
        part = "promises 4 to 6, UNKNOWN before BAD_VALUE";
        SharedRides x = tight();
        for (int r : row(-1, 2, LEAST, MOST)) {
            for (boolean drop : new boolean[] {false, true}) {
                due(UNKNOWN, x.setWindow(r, drop, -1, 5), "setWindow(" + r + ", " + drop + ", -1, 5)");
                due(UNKNOWN, x.setWindow(r, drop, 9, 8), "setWindow(" + r + ", " + drop + ", 9, 8)");
                due(UNKNOWN, x.setWindow(r, drop, 0, 5001), "setWindow(" + r + ", " + drop + ", 0, 5001)");
            }
            due(UNKNOWN, x.setLimit(r, -1), "setLimit(" + r + ", -1)");
            due(UNKNOWN, x.setLimit(r, 1001), "setLimit(" + r + ", 1001)");
            due(UNKNOWN, x.setLoad(r, 0), "setLoad(" + r + ", 0)");
            due(UNKNOWN, x.setLoad(r, 9), "setLoad(" + r + ", 9)");
        }
        SharedRides empty = new SharedRides();
        due(UNKNOWN, empty.setWindow(0, false, 9, 8), "setWindow(0, false, 9, 8) of a new object");
        due(UNKNOWN, empty.setLimit(0, 1001), "setLimit(0, 1001) of a new object");
        due(UNKNOWN, empty.setLoad(0, 9), "setLoad(0, 9) of a new object");
    }

    /** What is out of range here would leave the route no schedule too, or too little room. */
    private static void badBeforeNotFeasibleOfChanges() {
        part = "promises 4 to 7, BAD_VALUE before NOT_FEASIBLE";
        SharedRides x = tight();
        due(NOT_FEASIBLE, x.setWindow(0, false, 0, 9), "setWindow(0, false, 0, 9)");
        due(BAD_VALUE, x.setWindow(0, false, -1, 9), "setWindow(0, false, -1, 9)");
        due(BAD_VALUE, x.setWindow(0, false, 9, 8), "setWindow(0, false, 9, 8)");
        due(NOT_FEASIBLE, x.setWindow(0, false, 5000, 5000), "setWindow(0, false, 5000, 5000)");
        due(BAD_VALUE, x.setWindow(0, false, 5001, 5001), "setWindow(0, false, 5001, 5001)");
        due(NOT_FEASIBLE, x.setWindow(0, true, 32, 5000), "setWindow(0, true, 32, 5000)");
        due(BAD_VALUE, x.setWindow(0, true, 32, 5001), "setWindow(0, true, 32, 5001)");
        due(BAD_VALUE, x.setWindow(0, true, 32, 31), "setWindow(0, true, 32, 31)");
        due(NOT_FEASIBLE, x.setLimit(0, 0), "setLimit(0, 0)");
        due(BAD_VALUE, x.setLimit(0, -1), "setLimit(0, -1)");
        due(BAD_VALUE, x.setLimit(0, LEAST), "setLimit(0, LEAST)");
        due(NOT_FEASIBLE, x.setLoad(0, 8), "setLoad(0, 8)");
        due(BAD_VALUE, x.setLoad(0, 9), "setLoad(0, 9)");
        due(BAD_VALUE, x.setLoad(0, MOST), "setLoad(0, MOST)");
        due(NOT_FEASIBLE, x.setService(10), "setService(10)");
        due(BAD_VALUE, x.setService(11), "setService(11)");
        due(BAD_VALUE, x.setService(MOST), "setService(MOST)");
    }

    private static void unknownBeforeBadOfQuestions() {
        part = "promises 9 to 11, UNKNOWN before BAD_VALUE";
        SharedRides x = tight();
        for (int n : row(-1, 2, LEAST, MOST)) {
            due(UNKNOWN, x.request(n, -1), "request(" + n + ", -1)");
            due(UNKNOWN, x.request(n, 8), "request(" + n + ", 8)");
            due(UNKNOWN, x.vehicle(n, -1), "vehicle(" + n + ", -1)");
            due(UNKNOWN, x.vehicle(n, 7), "vehicle(" + n + ", 7)");
            due(UNKNOWN, x.stop(n, 0, -1), "stop(" + n + ", 0, -1)");
            due(UNKNOWN, x.stop(n, 0, 6), "stop(" + n + ", 0, 6)");
            due(UNKNOWN, x.stop(n, 2, 6), "stop(" + n + ", 2, 6)");
            due(UNKNOWN, x.stop(0, n, -1), "stop(0, " + n + ", -1)");
            due(UNKNOWN, x.stop(0, n, 6), "stop(0, " + n + ", 6)");
        }
        due(UNKNOWN, x.stop(1, 0, 6), "stop(1, 0, 6) without stops");
        due(BAD_VALUE, x.stop(0, 1, 6), "stop(0, 1, 6)");
        due(UNKNOWN, new SharedRides().request(0, 8), "request(0, 8) of a new object");
        due(UNKNOWN, new SharedRides().vehicle(0, 7), "vehicle(0, 7) of a new object");
        due(UNKNOWN, new SharedRides().stop(0, 0, 6), "stop(0, 0, 6) of a new object");
    }

    /** A request that isn't there is not assigned either. */
    private static void unknownBeforeNotAssigned() {
        part = "promises 12 and 19, UNKNOWN before NOT_ASSIGNED";
        SharedRides x = tight();
        due(NOT_ASSIGNED, x.rideTime(1, false), "rideTime(1, false)");
        due(NOT_ASSIGNED, x.rideTime(1, true), "rideTime(1, true)");
        due(NOT_ASSIGNED, x.remove(1), "remove(1)");
        for (int r : row(-1, 2, LEAST, MOST)) {
            due(UNKNOWN, x.rideTime(r, false), "rideTime(" + r + ", false)");
            due(UNKNOWN, x.rideTime(r, true), "rideTime(" + r + ", true)");
            due(UNKNOWN, x.remove(r), "remove(" + r + ")");
        }
    }

    /** A vehicle that isn't there has no stops and no insertions. */
    private static void unknownBeforeNone() {
        part = "promises 13 and 16, NONE only if no error applies";
        SharedRides x = tight();
        due(NONE, x.depotTime(1, false), "depotTime(1, false)");
        due(NONE, x.depotTime(1, true), "depotTime(1, true)");
        due(NONE, x.best(1, 0), "best(1, 0)");
        due(NONE, x.best(1, 1), "best(1, 1)");
        for (int n : row(-1, 2, LEAST, MOST)) {
            due(UNKNOWN, x.depotTime(n, false), "depotTime(" + n + ", false)");
            due(UNKNOWN, x.depotTime(n, true), "depotTime(" + n + ", true)");
            due(UNKNOWN, x.best(1, n), "best(1, " + n + ")");
            due(UNKNOWN, x.best(n, 1), "best(" + n + ", 1)");
        }
        due(ASSIGNED, x.best(0, 0), "best(0, 0)");
        due(ASSIGNED, x.best(0, 1), "best(0, 1), which would be NONE");
    }

    private static void insertion(int want, SharedRides x, int request, int vehicle, int i, int j) {
        String arguments = "(" + request + ", " + vehicle + ", " + i + ", " + j + ")";
        due(want, x.cost(request, vehicle, i, j), "cost" + arguments);
        due(want, x.insert(request, vehicle, i, j), "insert" + arguments);
    }

    private static void insertionsUnknownFirst() {
        part = "promises 14 and 15, UNKNOWN before BAD_VALUE, ASSIGNED and NOT_FEASIBLE";
        SharedRides x = tight();
        for (int n : row(-1, 2, LEAST, MOST)) {
            insertion(UNKNOWN, x, n, 0, -1, 1);
            insertion(UNKNOWN, x, n, 0, 0, 0);
            insertion(UNKNOWN, x, n, 0, 0, 4);
            insertion(UNKNOWN, x, 1, n, -1, 1);
            insertion(UNKNOWN, x, 1, n, 0, 0);
            insertion(UNKNOWN, x, 1, n, 0, 4);
            insertion(UNKNOWN, x, 0, n, 0, 1);
            insertion(UNKNOWN, x, 0, n, MOST, LEAST);
            insertion(UNKNOWN, x, n, n, 0, 1);
            insertion(UNKNOWN, x, n, 1, 0, 1);
            insertion(UNKNOWN, x, 1, n, 0, 1);
        }
    }

    private static void insertionsBadBeforeAssigned() {
        part = "promises 14 and 15, BAD_VALUE before ASSIGNED";
        SharedRides x = tight();
        int[][] places = {{-1, 0}, {-1, 1}, {0, 0}, {1, 1}, {2, 2}, {2, 1}, {0, 4}, {2, 4}, {3, 4}, {LEAST, 1}, {0, MOST},
            {MOST, LEAST}};
        for (int[] p : places) insertion(BAD_VALUE, x, 0, 0, p[0], p[1]);
        insertion(BAD_VALUE, x, 0, 1, 0, 2);
        insertion(BAD_VALUE, x, 0, 1, 1, 2);
        insertion(ASSIGNED, x, 0, 0, 0, 1);
        insertion(ASSIGNED, x, 0, 0, 2, 3);
        insertion(ASSIGNED, x, 0, 1, 0, 1);
    }

    private static void insertionsBadBeforeNotFeasible() {
        part = "promises 14 and 15, BAD_VALUE before NOT_FEASIBLE";
        SharedRides x = tight();
        for (int i = 0; i <= 2; i++) {
            for (int j = i + 1; j <= 3; j++) insertion(NOT_FEASIBLE, x, 1, 0, i, j);
            insertion(BAD_VALUE, x, 1, 0, i, i);
            insertion(BAD_VALUE, x, 1, 0, i, 4);
            insertion(BAD_VALUE, x, 1, 0, -1, i + 1);
        }
        insertion(NOT_FEASIBLE, x, 1, 1, 0, 1);
        insertion(BAD_VALUE, x, 1, 1, 0, 2);
        insertion(BAD_VALUE, x, 1, 1, -1, 1);
        insertion(BAD_VALUE, x, 1, 1, 1, 2);
    }

    private static void insertionsAssignedBeforeNotFeasible() {
        part = "promises 14 and 15, ASSIGNED before NOT_FEASIBLE";
        SharedRides x = tight();
        // The load is 2: too much for vehicle 1, and twice too much for vehicle 0.
        insertion(ASSIGNED, x, 0, 1, 0, 1);
        insertion(ASSIGNED, x, 0, 0, 1, 2);
        insertion(ASSIGNED, x, 0, 0, 0, 3);
    }

    private static void bestInsertions() {
        part = "promise 16, UNKNOWN before ASSIGNED";
        SharedRides x = tight();
        for (int v : row(-1, 2, LEAST, MOST)) due(UNKNOWN, x.best(0, v), "best(0, " + v + ")");
        part = "promise 17, UNKNOWN before ASSIGNED before NOT_FEASIBLE";
        for (int n : row(-1, 2, LEAST, MOST)) {
            due(UNKNOWN, x.assignTo(0, n), "assignTo(0, " + n + ")");
            due(UNKNOWN, x.assignTo(1, n), "assignTo(1, " + n + ")");
            due(UNKNOWN, x.assignTo(n, 0), "assignTo(" + n + ", 0)");
            due(UNKNOWN, x.assignTo(n, n), "assignTo(" + n + ", " + n + ")");
        }
        due(ASSIGNED, x.assignTo(0, 0), "assignTo(0, 0)");
        due(ASSIGNED, x.assignTo(0, 1), "assignTo(0, 1), where there is no room");
        due(NOT_FEASIBLE, x.assignTo(1, 0), "assignTo(1, 0)");
        due(NOT_FEASIBLE, x.assignTo(1, 1), "assignTo(1, 1)");
        part = "promise 18, UNKNOWN before ASSIGNED before NOT_FEASIBLE";
        for (int r : row(-1, 2, LEAST, MOST)) due(UNKNOWN, x.assign(r), "assign(" + r + ")");
        due(ASSIGNED, x.assign(0), "assign(0), for which there is no more room");
        due(NOT_FEASIBLE, x.assign(1), "assign(1)");
        SharedRides noVehicle = new SharedRides();
        noVehicle.addRequest(0, 0, 0, 0, 1, 0);
        due(UNKNOWN, noVehicle.assign(1), "assign(1) without vehicles");
        due(NOT_FEASIBLE, noVehicle.assign(0), "assign(0) without vehicles");
    }

    private static void chains() {
        part = "promises 20 and 21, UNKNOWN before ASSIGNED before NOT_FEASIBLE";
        SharedRides x = tight();
        for (int r : row(-1, 2, LEAST, MOST)) {
            due(UNKNOWN, x.chainCost(r), "chainCost(" + r + ")");
            due(UNKNOWN, x.chain(r), "chain(" + r + ")");
        }
        due(ASSIGNED, x.chainCost(0), "chainCost(0), with nothing else to move");
        due(ASSIGNED, x.chain(0), "chain(0), with nothing else to move");
        due(NOT_FEASIBLE, x.chainCost(1), "chainCost(1)");
        due(NOT_FEASIBLE, x.chain(1), "chain(1)");
    }

    private static void allErrorsAtOnce() {
        part = "every error that can apply at once";
        SharedRides x = tight();
        insertion(UNKNOWN, x, 0, 2, -1, 9);
        insertion(BAD_VALUE, x, 0, 1, -1, 9);
        insertion(ASSIGNED, x, 0, 1, 0, 1);
        insertion(NOT_FEASIBLE, x, 1, 1, 0, 1);
        due(UNKNOWN, x.setWindow(2, true, 5001, -1), "setWindow(2, true, 5001, -1)");
        due(BAD_VALUE, x.setWindow(0, true, 5001, -1), "setWindow(0, true, 5001, -1)");
        due(NOT_FEASIBLE, x.setWindow(0, true, 0, 0), "setWindow(0, true, 0, 0)");
    }
}
