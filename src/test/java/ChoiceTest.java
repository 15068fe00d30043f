/** Which insertion, chain or improvement is chosen of several, and which ones don't count. */
public final class ChoiceTest extends Checks {
    public static void main(String[] args) {
        allPlaces();
        removedFromBetween();
        leastCost();
        leastPickupPlace();
        leastDropPlace();
        onlyPossibleOnes();
        noInsertion();
        lowestVehicle();
        cheapestVehicle();
        shortBeforeCheaperLong();
        notBackIntoTheSameVehicle();
        lastOneNotBackIntoItsVehicle();
        twoOfDifferentVehicles();
        lowestVehicleForTheMovedOne();
        chainWhereTheRequestFits();
        chainOfCostZero();
        cheapestChainOfSeveral();
        longChainsOfEqualCost();
        routesOfALongChain();
        numbersOfMovedRequests();
        nothingToMove();
        improvementOfNothing();
        improvementMustGain();
        improvementInTheSameVehicle();
        improvementByLowestVehicle();
        improvementOfLowestRequest();
        improvementsUntilNone();
        end("what is chosen is as is due");
    }

    private static SharedRides narrow(int... capacities) {
        SharedRides x = new SharedRides();
        for (int capacity : capacities) x.addVehicle(0, 0, capacity, 0, 62);
        return x;
    }

    /** Vehicles at 0,0 with time for all. */
    private static SharedRides wide(int... capacities) {
        SharedRides x = new SharedRides();
        for (int capacity : capacities) x.addVehicle(0, 0, capacity, 0, 5000);
        return x;
    }

    /** Rides from 10,0 to 30,0 without a stop between. */
    private static void rides(SharedRides x, int... loads) {
        for (int load : loads) x.addRequest(10, 0, 30, 0, load, 20);
    }

    private static void allPlaces() {
        part = "its pickup is stop i and its drop is stop j of the new route (counted from 0)";
        for (int before = 0; before <= 3; before++) {
            for (int i = 0; i <= 2 * before; i++) {
                for (int j = i + 1; j <= 2 * before + 1; j++) placed(before, i, j);
            }
        }
    }

    private static void placed(int before, int i, int j) {
        SharedRides x = wide(8);
        int[] want = new int[2 * before + 3];
        for (int r = 0; r < 4; r++) x.addRequest(r, 0, r, 1, 1, 1000);
        for (int r = 0; r < before; r++) x.insert(r, 0, r, 2 * r + 1);
        int[] old = plan(x);
        int from = 0;
        for (int k = 0; k < want.length; k++) want[k] = k == i ? 6 : k == j ? 7 : old[from++];
        int length = x.count(3);
        int cost = x.cost(3, 0, i, j);
        due(cost, x.insert(3, 0, i, j), "insert(3, 0, " + i + ", " + j + ")");
        due(length + cost, x.count(3), "count(3) after insert(3, 0, " + i + ", " + j + ")");
        dueRow("plan after insert(3, 0, " + i + ", " + j + ")", want, plan(x));
        due(cost, x.remove(3), "remove(3)");
        dueRow("plan after remove(3)", old, plan(x));
    }

    private static void removedFromBetween() {
        part = "promise 19, removes the stops of a request";
        SharedRides x = wide(8);
        for (int r = 0; r < 3; r++) x.addRequest(r, 0, r, 1, 1, 1000);
        x.insert(0, 0, 0, 1);
        x.insert(1, 0, 1, 2);
        x.insert(2, 0, 2, 4);
        dueRow("plan", row(0, 2, 4, 3, 5, 1, -1), plan(x));
        x.remove(1);
        dueRow("plan", row(0, 4, 5, 1, -1), plan(x));
        x.remove(0);
        dueRow("plan", row(4, 5, -1), plan(x));
        x.remove(2);
        dueRow("plan", row(-1), plan(x));
    }

    private static void leastCost() {
        part = "the best insertion is the possible one with the least cost";
        SharedRides x = wide(8);
        x.addRequest(20, 0, 40, 0, 1, 1000);
        x.addRequest(45, 10, 30, 10, 1, 1000);
        x.assign(0);
        dueRow("costs", row(70, 90, 50, 50, 30), x.cost(1, 0, 0, 1), x.cost(1, 0, 0, 2), x.cost(1, 0, 1, 2),
            x.cost(1, 0, 1, 3), x.cost(1, 0, 2, 3));
        due(203, x.best(1, 0), "best(1, 0)");
        due(30, x.assignTo(1, 0), "assignTo(1, 0)");
        dueRow("plan", row(0, 1, 2, 3, -1), plan(x));
    }

    private static void leastPickupPlace() {
        part = "of several insertions the one with the least i";
        SharedRides x = wide(8);
        x.addRequest(10, 0, 20, 0, 1, 1000);
        x.addRequest(10, 0, 20, 0, 1, 1000);
        x.assign(0);
        // Before or behind pickup 0, before or behind drop 0: all cost nothing.
        dueRow("costs", row(0, 0, 0, 0), x.cost(1, 0, 0, 2), x.cost(1, 0, 0, 3), x.cost(1, 0, 1, 2), x.cost(1, 0, 1, 3));
        due(2, x.best(1, 0), "best(1, 0)");
        part = "of several of these the one with the least j";
        due(0, x.assignTo(1, 0), "assignTo(1, 0)");
        dueRow("plan", row(2, 0, 3, 1, -1), plan(x));
    }

    /** Behind the other drop costs as much as before it; the first place of the pickup is shut. */
    private static void leastDropPlace() {
        part = "of several with the same i the one with the least j";
        SharedRides x = wide(8);
        x.addRequest(10, 0, 20, 0, 1, 1000);
        x.addRequest(10, 0, 20, 0, 1, 1000);
        x.assign(0);
        x.setWindow(0, false, 0, 10);
        // 10, 11, 22, 23, whichever drop comes first
        due(102, x.best(1, 0), "best(1, 0)");
        x.setWindow(0, true, 0, 22);
        due(103, x.best(1, 0), "best(1, 0), where the other drop can't wait");
        x.setWindow(0, true, 0, 21);
        due(203, x.best(1, 0), "best(1, 0), where there is no time for a stop between");
    }

    private static void onlyPossibleOnes() {
        part = "the best insertion is a possible one";
        SharedRides x = wide(2);
        rides(x, 2);
        x.addRequest(10, 0, 30, 0, 1, 1000);
        x.assign(0);
        // With both aboard it would cost nothing.
        due(NOT_FEASIBLE, x.cost(1, 0, 0, 2), "cost(1, 0, 0, 2)");
        due(1, x.best(1, 0), "best(1, 0)");
        due(40, x.assignTo(1, 0), "assignTo(1, 0)");
        due(1, x.undo(), "undo()");
        x.setWindow(0, false, 0, 10);
        due(203, x.best(1, 0), "best(1, 0), behind the other");
        due(0, x.assign(1), "assign(1)");
        dueRow("plan", row(0, 1, 2, 3, -1), plan(x));
    }

    private static void noInsertion() {
        part = "promises 16 to 18, no insertion is possible";
        SharedRides x = narrow(1, 1);
        rides(x, 1, 1, 1, 2);
        due(NONE, x.best(3, 0), "best(3, 0), too much load for all");
        due(NOT_FEASIBLE, x.assignTo(3, 1), "assignTo(3, 1)");
        due(NOT_FEASIBLE, x.assign(3), "assign(3)");
        due(0, x.assign(0), "assign(0)");
        due(1, x.assign(1), "assign(1)");
        due(NONE, x.best(2, 0), "best(2, 0), no time");
        due(NONE, x.best(2, 1), "best(2, 1), no time");
        due(NOT_FEASIBLE, x.assignTo(2, 0), "assignTo(2, 0)");
        due(NOT_FEASIBLE, x.assign(2), "assign(2)");
        x.remove(1);
        due(NONE, x.best(2, 0), "best(2, 0)");
        due(1, x.best(2, 1), "best(2, 1), time again");
        due(1, x.assign(2), "assign(2)");
    }

    private static void lowestVehicle() {
        part = "of several vehicles the one with the lowest number";
        SharedRides x = new SharedRides();
        for (int v = 0; v < 4; v++) x.addVehicle(7, 7, 1, 0, 5000);
        for (int r = 0; r < 5; r++) x.addRequest(7, 7, 7, 7, 1, 0);
        due(0, x.assign(4), "assign(4)");
        x.setWindow(4, false, 0, 0);
        // In vehicle 0 it must go behind the other, in the others it would be first: vehicle 0 all the same.
        due(203, x.best(0, 0), "best(0, 0)");
        due(1, x.best(0, 1), "best(0, 1)");
        due(0, x.assign(0), "assign(0)");
        dueRow("plan", row(8, 9, 0, 1, -1, -1, -1, -1), plan(x));
        x.setWindow(1, false, 0, 0);
        due(1, x.assign(1), "assign(1), for which vehicle 0 has no time");
        x.setWindow(2, false, 0, 0);
        due(2, x.assign(2), "assign(2), for which vehicles 0 and 1 have no time");
        x.setWindow(3, false, 0, 0);
        due(3, x.assign(3), "assign(3), for which vehicle 3 alone has time");
    }

    private static void cheapestVehicle() {
        part = "of the best insertions into each vehicle the one with the least cost";
        SharedRides x = new SharedRides();
        x.addVehicle(0, 3, 8, 0, 5000);
        x.addVehicle(0, 2, 8, 0, 5000);
        x.addVehicle(0, 0, 8, 0, 60);
        x.addVehicle(0, 1, 8, 0, 5000);
        rides(x, 1, 1);
        // 66, 64, no time, 62
        due(3, x.assign(0), "assign(0)");
        // 66, 64, no time, and 40 more behind the other ride
        due(3, x.assign(1), "assign(1)");
        due(102, x.count(3), "count(3)");
    }

    private static void shortBeforeCheaperLong() {
        part = "the best chain is a short one; a long one only without a possible short one";
        SharedRides x = narrow(3, 2, 1);
        rides(x, 3, 2, 1);
        x.assignTo(1, 0);
        x.assignTo(2, 1);
        due(10060, x.chainCost(0), "chainCost(0), long");
        x.addVehicle(0, 50, 2, 0, 5000);
        due(10160, x.chainCost(0), "chainCost(0), short and dearer");
        due(199, x.chain(0), "chain(0)");
        dueRow("vehicles", row(0, 3, 1), x.request(0, 0), x.request(1, 0), x.request(2, 0));
        due(280, x.count(3), "count(3)");
    }

    /**
     * Request 0 must come first, and request 2 soon after it: so request 1, which stands before
     * request 2, would have to go behind it, in the same vehicle.
     */
    private static SharedRides wrongOrder(int... capacities) {
        SharedRides x = wide(capacities);
        rides(x, 2, 2, 2);
        x.setWindow(0, false, 10, 10);
        x.setWindow(2, false, 0, 80);
        x.insert(1, 0, 0, 1);
        x.insert(2, 0, 2, 3);
        return x;
    }

    private static void notBackIntoTheSameVehicle() {
        part = "short: then a into a vehicle other than v";
        SharedRides x = wrongOrder(2);
        due(NONE, x.best(0, 0), "best(0, 0)");
        due(NOT_FEASIBLE, x.chainCost(0), "chainCost(0)");
        due(NOT_FEASIBLE, x.chain(0), "chain(0)");
        x.remove(1);
        due(1, x.best(0, 0), "best(0, 0) without request 1");
        x.assign(0);
        due(405, x.best(1, 0), "best(1, 0), behind both");
        SharedRides y = wrongOrder(2, 2);
        due(10060, y.chainCost(0), "chainCost(0) with another vehicle");
        due(199, y.chain(0), "chain(0) with another vehicle");
        dueRow("plan", row(0, 1, 4, 5, -1, 2, 3, -1), plan(y));
    }

    /** Vehicle 1 has the wrong order here: for request 0 of vehicle 0, which makes room for request 3. */
    private static void lastOneNotBackIntoItsVehicle() {
        part = "long: then b is inserted into a vehicle other than w";
        for (boolean third : new boolean[] {false, true}) {
            SharedRides x = new SharedRides();
            x.addVehicle(0, 0, 3, 0, 62);
            x.addVehicle(0, 0, 2, 0, 5000);
            rides(x, 2, 2, 2, 3);
            x.setWindow(0, false, 10, 10);
            x.setWindow(2, false, 0, 80);
            x.assignTo(0, 0);
            x.insert(1, 1, 0, 1);
            x.insert(2, 1, 2, 3);
            if (third) x.addVehicle(0, 0, 2, 32, 5000);
            // Request 2 can be taken at 42 at the earliest in the third vehicle, request 0 not at all.
            due(third ? 10060 : NOT_FEASIBLE, x.chainCost(3), "chainCost(3), third vehicle " + third);
            due(third ? 1 : NOT_FEASIBLE, x.chain(3), "chain(3), third vehicle " + third);
            if (third) dueRow("plan", row(6, 7, -1, 0, 1, 4, 5, -1, 2, 3, -1), plan(x));
        }
    }

    private static void twoOfDifferentVehicles() {
        part = "long: two requests a and b that are assigned to different vehicles";
        SharedRides x = wrongOrder(2, 1);
        rides(x, 1);
        x.insert(3, 0, 4, 5);
        // Request 3 could go to vehicle 1, and request 1 behind request 2: but both are in vehicle 0.
        dueRow("plan", row(2, 3, 4, 5, 6, 7, -1, -1), plan(x));
        due(NONE, x.best(0, 0), "best(0, 0)");
        due(NOT_FEASIBLE, x.chainCost(0), "chainCost(0)");
        due(NOT_FEASIBLE, x.chain(0), "chain(0)");
        part = "long chains with no more than two vehicles";
        SharedRides y = narrow(3);
        y.addVehicle(0, 0, 2, 0, 104);
        rides(y, 3, 2, 1);
        y.assignTo(1, 0);
        y.assignTo(2, 1);
        y.setWindow(1, false, 0, 10);
        y.setWindow(2, false, 0, 10);
        due(NOT_FEASIBLE, y.chain(0), "chain(0)");
        y.setWindow(2, false, 0, 5000);
        due(199, y.chain(0), "chain(0), short when request 2 may wait");
    }

    private static void lowestVehicleForTheMovedOne() {
        part = "the vehicle that a moved request gets: the best one, of several the lowest";
        SharedRides x = wide(8, 8, 8, 8);
        rides(x, 1, 1);
        x.assignTo(1, 1);
        due(10060, x.chainCost(0), "chainCost(0)");
        due(199, x.chain(0), "chain(0)");
        dueRow("vehicles", row(1, 0), x.request(0, 0), x.request(1, 0));
        SharedRides y = new SharedRides();
        for (int v = 0; v < 4; v++) y.addVehicle(0, v == 0 ? 9 : v == 3 ? 0 : 1, 8, 0, 5000);
        rides(y, 1, 1);
        y.assignTo(1, 0);
        due(199, y.chain(0), "chain(0)");
        due(3, y.request(1, 0), "request(1, 0), the vehicle for which it costs least");
    }

    private static void chainWhereTheRequestFits() {
        part = "a chain is looked for also where the request would fit without one";
        SharedRides x = wide(8, 8);
        rides(x, 1, 1);
        x.assignTo(1, 0);
        due(1, x.best(0, 0), "best(0, 0)");
        due(10060, x.chainCost(0), "chainCost(0)");
        due(199, x.chain(0), "chain(0)");
        dueRow("vehicles", row(0, 1), x.request(0, 0), x.request(1, 0));
    }

    private static void chainOfCostZero() {
        part = "promise 20, returns the cost (perhaps negative), plus 10000";
        SharedRides x = new SharedRides();
        for (int v = 0; v < 2; v++) x.addVehicle(3, 3, 1, 0, 5000);
        for (int r = 0; r < 2; r++) x.addRequest(3, 3, 3, 3, 1, 0);
        x.assignTo(1, 1);
        due(10000, x.chainCost(0), "chainCost(0)");
        due(199, x.chain(0), "chain(0)");
        due(0, x.count(3), "count(3)");
        SharedRides far = new SharedRides();
        far.addVehicle(99, 99, 8, 0, 5000);
        far.addVehicle(0, 0, 1, 0, 5000);
        far.addRequest(99, 99, 99, 99, 8, 0);
        far.addRequest(0, 0, 0, 0, 1, 0);
        far.assignTo(1, 0);
        due(10000 - 396, far.chainCost(0), "chainCost(0), negative");
        due(199, far.chain(0), "chain(0)");
        due(0, far.count(3), "count(3)");
        SharedRides dear = new SharedRides();
        dear.addVehicle(0, 0, 8, 0, 5000);
        dear.addVehicle(99, 99, 1, 0, 5000);
        dear.addRequest(99, 99, 0, 0, 8, 1000);
        dear.addRequest(0, 0, 0, 0, 1, 0);
        dear.assignTo(1, 0);
        due(10000 + 396 + 396, dear.chainCost(0), "chainCost(0), dear");
    }

    /** Requests 1, 2 and 3 can make room, for 140, 80 and 80. */
    private static void cheapestChainOfSeveral() {
        part = "the short chain with the least cost, of several the one with the lowest a";
        SharedRides x = new SharedRides();
        x.addVehicle(0, 20, 3, 0, 62);
        x.addVehicle(0, 20, 3, 0, 62);
        x.addVehicle(0, 5, 3, 0, 92);
        x.addVehicle(0, 30, 2, 0, 5000);
        x.addRequest(10, 20, 30, 20, 3, 20);
        x.addRequest(10, 5, 30, 5, 2, 20);
        x.addRequest(10, 20, 30, 20, 2, 20);
        x.addRequest(10, 20, 30, 20, 2, 20);
        x.assignTo(1, 2);
        due(10140, x.chainCost(0), "chainCost(0) by request 1");
        x.assignTo(3, 0);
        due(10060, x.chainCost(0), "chainCost(0) by request 3, on to vehicle 1");
        x.assignTo(2, 1);
        due(10080, x.chainCost(0), "chainCost(0) by request 2");
        due(299, x.chain(0), "chain(0)");
        dueRow("vehicles", row(1, 2, 3, 0), x.request(0, 0), x.request(1, 0), x.request(2, 0), x.request(3, 0));
        due(260, x.count(3), "count(3)");
    }

    private static void longChainsOfEqualCost() {
        part = "of several long chains the one with the lowest a";
        SharedRides x = narrow(3, 3, 2, 1);
        rides(x, 3, 1, 2, 1, 2);
        x.assignTo(4, 0);
        x.assignTo(2, 1);
        x.assignTo(1, 2);
        due(10060, x.chainCost(0), "chainCost(0)");
        due(201, x.chain(0), "chain(0)");
        dueRow("vehicles", row(1, 3, 2, NONE, 0), x.request(0, 0), x.request(1, 0), x.request(2, 0), x.request(3, 0),
            x.request(4, 0));
        part = "of several of these the one with the lowest b";
        SharedRides y = narrow(3, 2, 2, 1);
        rides(y, 1, 1, 1, 1, 2, 3);
        y.assignTo(4, 0);
        y.assignTo(3, 1);
        y.assignTo(1, 2);
        due(10060, y.chainCost(5), "chainCost(5)");
        due(401, y.chain(5), "chain(5)");
        dueRow("vehicles", row(NONE, 3, NONE, 1, 2, 0), y.request(0, 0), y.request(1, 0), y.request(2, 0),
            y.request(3, 0), y.request(4, 0), y.request(5, 0));
        part = "the long chain with the least cost";
        SharedRides z = new SharedRides();
        z.addVehicle(0, 0, 3, 0, 62);
        z.addVehicle(0, 0, 2, 0, 62);
        z.addVehicle(0, 0, 2, 0, 92);
        z.addVehicle(0, 50, 1, 0, 200);
        rides(z, 3, 2, 1);
        z.addRequest(0, 40, 0, 45, 1, 20);
        z.assignTo(1, 0);
        z.assignTo(2, 1);
        due(10060, z.chainCost(0), "chainCost(0), request 2 on to vehicle 2");
        z.assignTo(3, 2);
        due(9990, z.chainCost(0), "chainCost(0), request 3 on to vehicle 3");
        due(103, z.chain(0), "chain(0)");
        due(200, z.count(3), "count(3)");
    }

    /** Each of the three insertions of a long chain is the best one, with the routes as they are then. */
    private static void routesOfALongChain() {
        part = "long: each insertion by the best insertion, the last with the routes as they are then";
        SharedRides x = new SharedRides();
        x.addVehicle(0, 0, 4, 0, 200);
        x.addVehicle(0, 0, 3, 0, 66);
        x.addRequest(10, 0, 30, 0, 4, 20);
        x.addRequest(10, 0, 30, 0, 2, 1000);
        x.addRequest(15, 0, 25, 0, 1, 100);
        x.addRequest(10, 0, 30, 0, 2, 1000);
        for (int r : row(0, 1)) x.setWindow(r, false, 0, 10);
        x.assignTo(1, 0);
        x.insert(3, 1, 0, 1);
        x.insert(2, 1, 1, 2);
        dueRow("plan", row(2, 3, -1, 6, 4, 5, 7, -1), plan(x));
        due(NOT_FEASIBLE, x.assign(0), "assign(0)");
        // Request 1 takes the place of request 3 in vehicle 1, which then rides behind request 0 in vehicle 0.
        due(10040, x.chainCost(0), "chainCost(0)");
        due(103, x.chain(0), "chain(0)");
        dueRow("plan", row(0, 1, 6, 7, -1, 2, 4, 3, 5, -1), plan(x));
        due(160, x.count(3), "count(3)");
    }

    private static void numbersOfMovedRequests() {
        part = "promise 21, returns 100 * a + b, where b is 99 for a short chain";
        for (int moved : row(0, 1, 10, 11)) {
            SharedRides x = wide(8, 8);
            for (int r = 0; r < 12; r++) rides(x, 1);
            x.assignTo(moved, 1);
            int open = moved == 0 ? 11 : 0;
            due(100 * moved + 99, x.chain(open), "chain(" + open + ") with request " + moved + " to move");
        }
        for (int[] ab : new int[][] {{0, 1}, {1, 0}, {0, 11}, {11, 0}, {11, 10}, {10, 11}, {4, 7}}) {
            SharedRides x = narrow(3, 2, 1);
            int open = ab[0] != 5 && ab[1] != 5 ? 5 : 6;
            for (int r = 0; r < 12; r++) rides(x, r == open ? 3 : r == ab[0] ? 2 : 1);
            x.assignTo(ab[0], 0);
            x.assignTo(ab[1], 1);
            due(100 * ab[0] + ab[1], x.chain(open), "chain(" + open + ") by " + ab[0] + " and " + ab[1]);
            due(2, x.request(ab[1], 0), "request(" + ab[1] + ", 0)");
        }
    }

    private static void nothingToMove() {
        part = "promises 20 and 21, NOT_FEASIBLE if no chain is possible";
        SharedRides x = wide(8, 8);
        rides(x, 1, 1);
        due(NOT_FEASIBLE, x.chainCost(0), "chainCost(0), where nothing is assigned");
        due(NOT_FEASIBLE, x.chain(0), "chain(0), where nothing is assigned");
        SharedRides one = wide(8);
        rides(one, 1, 1);
        one.assign(0);
        due(NOT_FEASIBLE, one.chainCost(1), "chainCost(1), with one vehicle");
        due(NOT_FEASIBLE, one.chain(1), "chain(1), with one vehicle");
        part = "a chain is possible if all of its insertions are possible";
        SharedRides y = narrow(3, 2, 1);
        rides(y, 3, 2, 1);
        y.assignTo(1, 0);
        y.assignTo(2, 1);
        y.setWindow(2, true, 33, 33);
        due(NOT_FEASIBLE, y.assignTo(0, 2), "assignTo(0, 2)");
        y.setLoad(2, 2);
        due(NOT_FEASIBLE, y.chain(0), "chain(0), where the last insertion is not possible");
        y.setLoad(2, 1);
        y.setLoad(1, 3);
        due(NOT_FEASIBLE, y.chain(0), "chain(0), where the second insertion is not possible");
        y.setLoad(1, 2);
        y.setLoad(0, 4);
        due(NOT_FEASIBLE, y.chain(0), "chain(0), where the first insertion is not possible");
        dueRow("plan", row(2, 3, -1, 4, 5, -1, -1), plan(y));
    }

    private static void improvementOfNothing() {
        part = "promise 22, NONE if no request makes it less: none assigned";
        due(NONE, new SharedRides().improve(), "improve() of a new object");
        SharedRides x = wide(8, 8);
        due(NONE, x.improve(), "improve() without requests");
        rides(x, 1, 1);
        due(NONE, x.improve(), "improve() of open requests");
        due(0, x.count(5), "count(5)");
        due(2, x.count(2), "count(2)");
    }

    private static void improvementMustGain() {
        part = "promise 22, NONE if no request makes it less: what is as long is left";
        SharedRides x = wide(8, 8);
        for (int r = 0; r < 2; r++) x.addRequest(10, 0, 30, 0, 1, 1000);
        x.assignTo(0, 1);
        due(NONE, x.improve(), "improve(), where vehicle 0 would cost as much");
        due(1, x.request(0, 0), "request(0, 0)");
        x.insert(1, 1, 1, 3);
        dueRow("plan", row(-1, 0, 2, 1, 3, -1), plan(x));
        due(NONE, x.improve(), "improve(), where the best insertion has other places");
        dueRow("plan", row(-1, 0, 2, 1, 3, -1), plan(x));
        due(2, x.count(5), "count(5)");
        SharedRides y = new SharedRides();
        y.addVehicle(0, 0, 8, 0, 5000);
        y.addVehicle(1, 0, 8, 0, 5000);
        rides(y, 1);
        y.assignTo(0, 0);
        due(2, y.improve(), "improve() by the least that there is");
        due(1, y.request(0, 0), "request(0, 0)");
        due(NONE, y.improve(), "improve() again");
    }

    private static void improvementInTheSameVehicle() {
        part = "promise 22, by the best insertion among all vehicles (also its own)";
        SharedRides x = wide(8);
        x.addRequest(20, 0, 40, 0, 1, 1000);
        x.addRequest(45, 10, 30, 10, 1, 1000);
        x.assign(0);
        due(90, x.insert(1, 0, 0, 2), "insert(1, 0, 0, 2)");
        due(60, x.improve(), "improve()");
        due(110, x.count(3), "count(3)");
        due(NONE, x.improve(), "improve() again");
        due(3, x.count(5), "count(5)");
    }

    private static void improvementByLowestVehicle() {
        part = "promise 22, inserted by the best insertion among all vehicles";
        SharedRides x = new SharedRides();
        for (int v = 0; v < 4; v++) x.addVehicle(0, v == 2 ? 5 : 0, 8, 0, 5000);
        rides(x, 1);
        x.assignTo(0, 2);
        due(10, x.improve(), "improve()");
        due(0, x.request(0, 0), "request(0, 0), the lowest of three vehicles");
        SharedRides y = new SharedRides();
        for (int v = 0; v < 4; v++) y.addVehicle(0, row(4, 9, 3, 2)[v], 8, 0, 5000);
        rides(y, 1);
        y.assignTo(0, 1);
        due(14, y.improve(), "improve()");
        due(3, y.request(0, 0), "request(0, 0), the cheapest");
    }

    private static void improvementOfLowestRequest() {
        part = "promise 22, by the greatest amount";
        SharedRides x = new SharedRides();
        x.addVehicle(0, 0, 1, 0, 5000);
        for (int v = 0; v < 3; v++) x.addVehicle(0, 5 + v, 1, 0, 5000);
        for (int r = 0; r < 4; r++) x.addRequest(0, 0, 0, 0, 1, 0);
        x.assignTo(3, 1);
        x.assignTo(1, 3);
        x.assignTo(2, 3);
        // Requests 1 and 2 share the way from 7: neither gains alone.
        due(10, x.improve(), "improve()");
        dueRow("vehicles", row(NONE, 3, 3, 0), x.request(0, 0), x.request(1, 0), x.request(2, 0), x.request(3, 0));
        due(NONE, x.improve(), "improve(), where two would have to move");
        x.remove(2);
        x.assignTo(0, 2);
        due(14, x.improve(), "improve(), the greater amount of the two");
        dueRow("vehicles", row(2, 0, NONE, 0), x.request(0, 0), x.request(1, 0), x.request(2, 0), x.request(3, 0));
        part = "promise 22, the lowest of several";
        SharedRides y = new SharedRides();
        for (int v = 0; v < 4; v++) y.addVehicle(0, v == 0 ? 0 : 6, 1, 0, 5000);
        for (int r = 0; r < 3; r++) y.addRequest(0, 0, 0, 0, 1, 0);
        for (int r = 0; r < 3; r++) y.assignTo(r, 3 - r);
        for (int r = 0; r < 3; r++) {
            due(12, y.improve(), "improve(), equal amounts");
            due(0, y.request(r, 0), "request(" + r + ", 0)");
            if (r < 2) due(2 - r, y.request(r + 1, 0), "request(" + (r + 1) + ", 0)");
        }
        due(NONE, y.improve(), "improve()");
    }

    private static void improvementsUntilNone() {
        part = "promise 22, returns by how much the sum becomes less";
        SharedRides x = new SharedRides();
        x.addVehicle(0, 0, 4, 0, 5000);
        x.addVehicle(60, 60, 4, 0, 5000);
        for (int r = 0; r < 8; r++) x.addRequest(11 * r % 60, 7 * r, 60 - 5 * r, 23 * r % 60, 1 + r % 3, 1000);
        for (int r = 0; r < 8; r++) x.insert(r, r % 2, 0, 1);
        int length = x.count(3);
        int steps = 0;
        for (int gain = x.improve(); gain != NONE && steps < 50; gain = x.improve()) {
            due(1, gain > 0 ? 1 : 0, "whether " + gain + " is a gain");
            due(length - gain, x.count(3), "count(3) after a gain of " + gain);
            length = x.count(3);
            steps++;
        }
        due(1, steps > 1 && steps < 50 ? 1 : 0, "whether " + steps + " steps are more than one, and not without end");
        due(length, x.count(3), "count(3) after NONE");
    }
}
