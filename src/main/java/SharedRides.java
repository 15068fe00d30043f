/**
 * A planner for shared rides: requests with time windows and ride limits are inserted into the
 * routes of vehicles. What each method promises stands in DOC.md, under its number.
 */
public final class SharedRides {
    public static final int UNKNOWN = -1001;
    public static final int BAD_VALUE = -1002;
    public static final int ASSIGNED = -1003;
    public static final int NOT_ASSIGNED = -1004;
    public static final int NOT_FEASIBLE = -1005;
    public static final int FULL = -1006;
    public static final int NONE = -1007;

    private static final int MAX_VEHICLES = 4;
    private static final int MAX_REQUESTS = 12;
    private static final int MAX_STOPS = 2 * MAX_REQUESTS;
    private static final int MAX_PLACES = MAX_STOPS + MAX_VEHICLES;
    private static final int MAX_COORDINATE = 99;
    private static final int MAX_TIME = 5000;
    private static final int MAX_LOAD = 8;
    private static final int MAX_LIMIT = 1000;
    private static final int MAX_SERVICE = 10;
    private static final int MAX_HISTORY = 10;
    private static final int NO_VEHICLE = -1;
    private static final int SHORT_CHAIN = 99;
    private static final int CHAIN_COST_ZERO = 10000;
    private static final int NO_BOUND = 1000000;

    private final Problem problem;
    private final Plan plan;
    private final History history;
    private final Timetable timetable;
    private final Inserter inserter;
    private final Mover mover;

    /** Promise 1. */
    public SharedRides() {
        Problem empty = new Problem();
        Timetable times = new Timetable(empty);
        Inserter insertions = new Inserter(empty, times);
        problem = empty;
        timetable = times;
        inserter = insertions;
        mover = new Mover(empty, insertions);
        plan = new Plan();
        history = new History();
    }

    /** Promise 2. */
    public int addVehicle(int x, int y, int capacity, int first, int last) {
        if (!isPlace(x, y) || !isLoad(capacity) || !isWindow(first, last)) {
            return BAD_VALUE;
        }
        if (problem.vehicles >= MAX_VEHICLES) {
            return FULL;
        }
        int vehicle = problem.vehicles;
        problem.capacity[vehicle] = capacity;
        problem.shiftFirst[vehicle] = first;
        problem.shiftLast[vehicle] = last;
        problem.keepPlace(MAX_STOPS + vehicle, x, y);
        problem.vehicles = vehicle + 1;
        history.forget();
        return vehicle;
    }

    /** Promise 3. */
    public int addRequest(int fromX, int fromY, int toX, int toY, int load, int limit) {
        if (!isPlace(fromX, fromY) || !isPlace(toX, toY) || !isLoad(load) || !isLimit(limit)) {
            return BAD_VALUE;
        }
        if (problem.requests >= MAX_REQUESTS) {
            return FULL;
        }
        int request = problem.requests;
        problem.keepLoad(request, load);
        problem.limit[request] = limit;
        problem.keepPlace(2 * request, fromX, fromY);
        problem.keepPlace(2 * request + 1, toX, toY);
        problem.keepWindow(2 * request, 0, MAX_TIME);
        problem.keepWindow(2 * request + 1, 0, MAX_TIME);
        problem.requests = request + 1;
        history.forget();
        return request;
    }

    /** Promise 4. */
    public int setWindow(int request, boolean drop, int first, int last) {
        if (!isRequest(request)) {
            return UNKNOWN;
        }
        if (!isWindow(first, last)) {
            return BAD_VALUE;
        }
        int place = drop ? 2 * request + 1 : 2 * request;
        int oldFirst = problem.windowFirst[place];
        int oldLast = problem.windowLast[place];
        if (first == oldFirst && last == oldLast) {
            return 0;
        }
        problem.keepWindow(place, first, last);
        if (!routeStillFits(request)) {
            problem.keepWindow(place, oldFirst, oldLast);
            return NOT_FEASIBLE;
        }
        history.forget();
        return 1;
    }

    /** Promise 5. */
    public int setLimit(int request, int limit) {
        if (!isRequest(request)) {
            return UNKNOWN;
        }
        if (!isLimit(limit)) {
            return BAD_VALUE;
        }
        int old = problem.limit[request];
        if (limit == old) {
            return old;
        }
        problem.limit[request] = limit;
        if (!routeStillFits(request)) {
            problem.limit[request] = old;
            return NOT_FEASIBLE;
        }
        history.forget();
        return old;
    }

    /** Promise 6. */
    public int setLoad(int request, int load) {
        if (!isRequest(request)) {
            return UNKNOWN;
        }
        if (!isLoad(load)) {
            return BAD_VALUE;
        }
        int old = problem.loadChange[2 * request];
        if (load == old) {
            return old;
        }
        problem.keepLoad(request, load);
        if (!routeStillFits(request)) {
            problem.keepLoad(request, old);
            return NOT_FEASIBLE;
        }
        history.forget();
        return old;
    }

    /** Promise 7. */
    public int setService(int minutes) {
        if (minutes < 0 || minutes > MAX_SERVICE) {
            return BAD_VALUE;
        }
        int old = problem.service;
        if (minutes == old) {
            return old;
        }
        problem.service = minutes;
        if (!allRoutesStillFit()) {
            problem.service = old;
            return NOT_FEASIBLE;
        }
        history.forget();
        return old;
    }

    /** Promise 8. */
    public int count(int what) {
        switch (what) {
            case 0:
                return problem.vehicles;
            case 1:
                return problem.requests;
            case 2:
                return openRequests();
            case 3:
                return problem.totalLength(plan);
            case 4:
                return problem.service;
            case 5:
                return history.size;
            default:
                return BAD_VALUE;
        }
    }

    /** Promise 9. */
    public int request(int request, int what) {
        if (!isRequest(request)) {
            return UNKNOWN;
        }
        int pickup = 2 * request;
        switch (what) {
            case 0:
                return isOpen(request) ? NONE : plan.vehicleOf[request];
            case 1:
                return problem.loadChange[pickup];
            case 2:
                return problem.limit[request];
            case 3:
                return problem.windowFirst[pickup];
            case 4:
                return problem.windowLast[pickup];
            case 5:
                return problem.windowFirst[pickup + 1];
            case 6:
                return problem.windowLast[pickup + 1];
            case 7:
                return problem.travel[pickup][pickup + 1];
            default:
                return BAD_VALUE;
        }
    }

    /** Promise 10. */
    public int vehicle(int vehicle, int what) {
        if (!isVehicle(vehicle)) {
            return UNKNOWN;
        }
        Route route = plan.routes[vehicle];
        switch (what) {
            case 0:
                return problem.capacity[vehicle];
            case 1:
                return problem.shiftFirst[vehicle];
            case 2:
                return problem.shiftLast[vehicle];
            case 3:
                return route.size;
            case 4:
                return problem.length(route);
            case 5:
                timetable.lookAt(route);
                return timetable.greatestLoad;
            case 6:
                return plan.requestsOf(vehicle);
            default:
                return BAD_VALUE;
        }
    }

    /** Promise 11. */
    public int stop(int vehicle, int k, int what) {
        if (!isVehicle(vehicle)) {
            return UNKNOWN;
        }
        Route route = plan.routes[vehicle];
        if (k < 0 || k >= route.size) {
            return UNKNOWN;
        }
        int place = route.stops[k];
        switch (what) {
            case 0:
                return place / 2;
            case 1:
                return place % 2;
            case 2:
                timetable.fits(route);
                return timetable.earliest[k];
            case 3:
                timetable.makeLatest(route);
                return timetable.latest[k];
            case 4:
                timetable.lookAt(route);
                return timetable.loadAfter[k];
            case 5:
                timetable.fits(route);
                return timetable.waitBefore(k);
            default:
                return BAD_VALUE;
        }
    }

    /** Promise 12. */
    public int rideTime(int request, boolean latest) {
        if (!isRequest(request)) {
            return UNKNOWN;
        }
        if (isOpen(request)) {
            return NOT_ASSIGNED;
        }
        Route route = plan.routes[plan.vehicleOf[request]];
        if (latest) {
            timetable.makeLatest(route);
            return timetable.minutesAboard(timetable.latest, request);
        }
        timetable.fits(route);
        return timetable.minutesAboard(timetable.earliest, request);
    }

    /** Promise 13. */
    public int depotTime(int vehicle, boolean arrival) {
        if (!isVehicle(vehicle)) {
            return UNKNOWN;
        }
        Route route = plan.routes[vehicle];
        if (route.size == 0) {
            return NONE;
        }
        if (arrival) {
            timetable.fits(route);
            return timetable.earliest[route.size - 1] + timetable.gap[route.size];
        }
        timetable.makeLatest(route);
        return timetable.latest[0] - timetable.gap[0];
    }

    /** Promise 14. */
    public int cost(int request, int vehicle, int i, int j) {
        int error = insertionError(request, vehicle, i, j);
        if (error != 0) {
            return error;
        }
        return problem.addedLength(plan.routes[vehicle], request, i, j);
    }

    /** Promise 15. */
    public int insert(int request, int vehicle, int i, int j) {
        int error = insertionError(request, vehicle, i, j);
        if (error != 0) {
            return error;
        }
        int added = problem.addedLength(plan.routes[vehicle], request, i, j);
        history.record(plan);
        plan.put(request, vehicle, i, j);
        return added;
    }

    /** Promise 16. */
    public int best(int request, int vehicle) {
        int error = openRequestError(request, vehicle);
        if (error != 0) {
            return error;
        }
        inserter.startOver();
        inserter.tryRoute(plan.routes[vehicle], request);
        return inserter.found ? 100 * inserter.i + inserter.j : NONE;
    }

    /** Promise 17. */
    public int assignTo(int request, int vehicle) {
        int error = openRequestError(request, vehicle);
        if (error != 0) {
            return error;
        }
        inserter.startOver();
        inserter.tryRoute(plan.routes[vehicle], request);
        return carryOutInsertion(request) ? inserter.cost : NOT_FEASIBLE;
    }

    /** Promise 18. */
    public int assign(int request) {
        int error = openRequestError(request);
        if (error != 0) {
            return error;
        }
        inserter.tryAllBut(NO_VEHICLE, plan, request);
        return carryOutInsertion(request) ? inserter.vehicle : NOT_FEASIBLE;
    }

    /** Promise 19. */
    public int remove(int request) {
        if (!isRequest(request)) {
            return UNKNOWN;
        }
        if (isOpen(request)) {
            return NOT_ASSIGNED;
        }
        int before = problem.totalLength(plan);
        history.record(plan);
        plan.take(request);
        return before - problem.totalLength(plan);
    }

    /** Promise 20. */
    public int chainCost(int request) {
        int error = openRequestError(request);
        if (error != 0) {
            return error;
        }
        mover.findChain(plan, request);
        return mover.found ? mover.change + CHAIN_COST_ZERO : NOT_FEASIBLE;
    }

    /** Promise 21. */
    public int chain(int request) {
        int error = openRequestError(request);
        if (error != 0) {
            return error;
        }
        mover.findChain(plan, request);
        if (!mover.found) {
            return NOT_FEASIBLE;
        }
        history.record(plan);
        plan.become(mover.outcome);
        return 100 * mover.firstMoved + mover.secondMoved;
    }

    /** Promise 22. */
    public int improve() {
        mover.findImprovement(plan);
        if (!mover.found) {
            return NONE;
        }
        history.record(plan);
        plan.become(mover.outcome);
        return -mover.change;
    }

    /** Promise 23. */
    public int undo() {
        if (history.size == 0) {
            return NONE;
        }
        history.restoreLatest(plan);
        return history.size;
    }

    private static boolean isPlace(int x, int y) {
        return x >= 0 && x <= MAX_COORDINATE && y >= 0 && y <= MAX_COORDINATE;
    }

    private static boolean isLoad(int load) {
        return load >= 1 && load <= MAX_LOAD;
    }

    private static boolean isLimit(int limit) {
        return limit >= 0 && limit <= MAX_LIMIT;
    }

    private static boolean isWindow(int first, int last) {
        return first >= 0 && first <= last && last <= MAX_TIME;
    }

    private boolean isVehicle(int vehicle) {
        return vehicle >= 0 && vehicle < problem.vehicles;
    }

    private boolean isRequest(int request) {
        return request >= 0 && request < problem.requests;
    }

    private boolean isOpen(int request) {
        return plan.vehicleOf[request] == NO_VEHICLE;
    }

    private int openRequests() {
        int open = 0;
        for (int request = 0; request < problem.requests; request++) {
            if (isOpen(request)) {
                open++;
            }
        }
        return open;
    }

    private boolean routeStillFits(int request) {
        return isOpen(request) || timetable.fits(plan.routes[plan.vehicleOf[request]]);
    }

    private boolean allRoutesStillFit() {
        for (int vehicle = 0; vehicle < problem.vehicles; vehicle++) {
            if (!timetable.fits(plan.routes[vehicle])) {
                return false;
            }
        }
        return true;
    }

    /** The error of a call for an open request, or 0. */
    private int openRequestError(int request) {
        if (!isRequest(request)) {
            return UNKNOWN;
        }
        return isOpen(request) ? 0 : ASSIGNED;
    }

    /** The error of a call for an open request and a vehicle, or 0. */
    private int openRequestError(int request, int vehicle) {
        return isVehicle(vehicle) ? openRequestError(request) : UNKNOWN;
    }

    /** The error of an insertion, or 0 if it is possible. */
    private int insertionError(int request, int vehicle, int i, int j) {
        if (!isRequest(request) || !isVehicle(vehicle)) {
            return UNKNOWN;
        }
        Route route = plan.routes[vehicle];
        if (i < 0 || j <= i || j > route.size + 1) {
            return BAD_VALUE;
        }
        if (!isOpen(request)) {
            return ASSIGNED;
        }
        return timetable.fits(inserter.routeWith(route, request, i, j)) ? 0 : NOT_FEASIBLE;
    }

    /** Carries out the insertion that the inserter found, if it found one. */
    private boolean carryOutInsertion(int request) {
        if (!inserter.found) {
            return false;
        }
        history.record(plan);
        return inserter.carryOut(plan, request);
    }

    /**
     * The vehicles, the requests and the service time. Places are numbered: the pickup of a request
     * is place 2 * request, its drop the place after that, and the depots follow all of these.
     */
    private static final class Problem {
        int vehicles = 0;
        int requests = 0;
        int service = 1;
        final int[] capacity = new int[MAX_VEHICLES];
        final int[] shiftFirst = new int[MAX_VEHICLES];
        final int[] shiftLast = new int[MAX_VEHICLES];
        final int[] limit = new int[MAX_REQUESTS];
        /** By how much the load of a vehicle grows at a stop. */
        final int[] loadChange = new int[MAX_STOPS];
        final int[] windowFirst = new int[MAX_STOPS];
        final int[] windowLast = new int[MAX_STOPS];
        final int[] placeX = new int[MAX_PLACES];
        final int[] placeY = new int[MAX_PLACES];
        final int[][] travel = new int[MAX_PLACES][MAX_PLACES];

        /** Sets the coordinates of a place, and its travel times from and to all others. */
        void keepPlace(int place, int x, int y) {
            placeX[place] = x;
            placeY[place] = y;
            for (int other = 0; other < MAX_PLACES; other++) {
                int minutes = Math.abs(x - placeX[other]) + Math.abs(y - placeY[other]);
                travel[place][other] = minutes;
                travel[other][place] = minutes;
            }
        }

        void keepWindow(int stop, int first, int last) {
            windowFirst[stop] = first;
            windowLast[stop] = last;
        }

        void keepLoad(int request, int load) {
            loadChange[2 * request] = load;
            loadChange[2 * request + 1] = -load;
        }

        int length(Route route) {
            int length = 0;
            int before = route.depot;
            for (int k = 0; k < route.size; k++) {
                length += travel[before][route.stops[k]];
                before = route.stops[k];
            }
            return length + travel[before][route.depot];
        }

        int totalLength(Plan plan) {
            int total = 0;
            for (int vehicle = 0; vehicle < vehicles; vehicle++) {
                total += length(plan.routes[vehicle]);
            }
            return total;
        }

        /** The cost of an insertion, whether it is possible or not. */
        int addedLength(Route route, int request, int i, int j) {
            int pickup = 2 * request;
            int drop = pickup + 1;
            int before = route.placeAt(i - 1);
            int after = route.placeAt(i);
            if (j == i + 1) {
                return travel[before][pickup] + travel[pickup][drop] + travel[drop][after]
                        - travel[before][after];
            }
            // The drop stands between these two of the old route, for the pickup comes before them.
            int beforeDrop = route.placeAt(j - 2);
            int afterDrop = route.placeAt(j - 1);
            return travel[before][pickup] + travel[pickup][after] - travel[before][after]
                    + travel[beforeDrop][drop] + travel[drop][afterDrop]
                    - travel[beforeDrop][afterDrop];
        }
    }

    /** The stops of a vehicle, as numbers of places. */
    private static final class Route {
        int vehicle;
        int depot;
        int size = 0;
        final int[] stops = new int[MAX_STOPS];

        Route(int vehicle) {
            this.vehicle = vehicle;
            this.depot = MAX_STOPS + vehicle;
        }

        void become(Route other) {
            vehicle = other.vehicle;
            depot = other.depot;
            size = other.size;
            System.arraycopy(other.stops, 0, stops, 0, MAX_STOPS);
        }

        /** The place of stop k, or the depot before the first and behind the last stop. */
        int placeAt(int k) {
            return k >= 0 && k < size ? stops[k] : depot;
        }

        /** Puts a request in, so that its pickup is stop i and its drop is stop j. */
        void put(int request, int i, int j) {
            if (size + 2 > MAX_STOPS || i < 0 || j <= i || j > size + 1) {
                return;
            }
            for (int k = size + 1; k > j; k--) {
                stops[k] = stops[k - 2];
            }
            for (int k = j - 1; k > i; k--) {
                stops[k] = stops[k - 1];
            }
            stops[i] = 2 * request;
            stops[j] = 2 * request + 1;
            size += 2;
        }

        void take(int request) {
            int kept = 0;
            for (int k = 0; k < size; k++) {
                if (stops[k] / 2 != request) {
                    stops[kept] = stops[k];
                    kept++;
                }
            }
            size = kept;
        }
    }

    /** The routes of all vehicles, and the vehicle of each request. */
    private static final class Plan {
        final Route[] routes = new Route[MAX_VEHICLES];
        final int[] vehicleOf = new int[MAX_REQUESTS];

        Plan() {
            for (int vehicle = 0; vehicle < MAX_VEHICLES; vehicle++) {
                routes[vehicle] = new Route(vehicle);
            }
            for (int request = 0; request < MAX_REQUESTS; request++) {
                vehicleOf[request] = NO_VEHICLE;
            }
        }

        void become(Plan other) {
            for (int vehicle = 0; vehicle < MAX_VEHICLES; vehicle++) {
                routes[vehicle].become(other.routes[vehicle]);
            }
            System.arraycopy(other.vehicleOf, 0, vehicleOf, 0, MAX_REQUESTS);
        }

        void put(int request, int vehicle, int i, int j) {
            if (vehicle == NO_VEHICLE) {
                return;
            }
            routes[vehicle].put(request, i, j);
            vehicleOf[request] = vehicle;
        }

        void take(int request) {
            if (vehicleOf[request] == NO_VEHICLE) {
                return;
            }
            routes[vehicleOf[request]].take(request);
            vehicleOf[request] = NO_VEHICLE;
        }

        /** The requests that are assigned to a vehicle, as a bit set. */
        int requestsOf(int vehicle) {
            int bits = 0;
            for (int request = 0; request < MAX_REQUESTS; request++) {
                if (vehicleOf[request] == vehicle) {
                    bits |= 1 << request;
                }
            }
            return bits;
        }
    }

    /** The latest plans, in a ring whose rows are used again. */
    private static final class History {
        int size = 0;
        private int oldest = 0;
        private final Plan[] plans = new Plan[MAX_HISTORY];

        History() {
            for (int k = 0; k < MAX_HISTORY; k++) {
                plans[k] = new Plan();
            }
        }

        void forget() {
            size = 0;
        }

        void record(Plan plan) {
            if (size == MAX_HISTORY) {
                oldest = (oldest + 1) % MAX_HISTORY;
                size--;
            }
            plans[(oldest + size) % MAX_HISTORY].become(plan);
            size++;
        }

        void restoreLatest(Plan plan) {
            if (size > 0) {
                size--;
                plan.become(plans[(oldest + size) % MAX_HISTORY]);
            }
        }
    }

    /** Finds out whether a route is feasible, and its loads and its earliest and latest schedule. */
    private static final class Timetable {
        final int[] earliest = new int[MAX_STOPS];
        final int[] latest = new int[MAX_STOPS];
        final int[] loadAfter = new int[MAX_STOPS];
        /** The least time to each stop from the one before (or the shift's beginning); then to the depot. */
        final int[] gap = new int[MAX_STOPS + 1];
        int greatestLoad = 0;
        private final Problem problem;
        /** The bounds of each stop's time that don't hang on another stop. */
        private final int[] lowest = new int[MAX_STOPS];
        private final int[] highest = new int[MAX_STOPS];
        /** Where in the route each place is. */
        private final int[] stopNumber = new int[MAX_STOPS];
        /** For each drop the stop of its pickup, and how long after the pickup's time it may be. */
        private final int[] pickupOf = new int[MAX_STOPS];
        private final int[] longest = new int[MAX_STOPS];
        private int size = 0;
        private int shiftFirst = 0;

        Timetable(Problem problem) {
            this.problem = problem;
        }

        /**
         * Tells whether a route is feasible, and makes its earliest schedule then. All times begin
         * at their lowest and are put off only as far as they must be, so the least ones come out.
         */
        boolean fits(Route route) {
            lookAt(route);
            if (greatestLoad > problem.capacity[route.vehicle]) {
                return false;
            }
            System.arraycopy(lowest, 0, earliest, 0, MAX_STOPS);
            // Unless bounds contradict each other, one time is put off by a row of others that
            // holds no stop twice; so what still moves after a pass for each stop would never rest.
            for (int pass = 0; pass <= size; pass++) {
                boolean stopsMoved = delayStops();
                boolean pickupsMoved = delayPickups();
                if (isTooLate()) {
                    return false;
                }
                if (!stopsMoved && !pickupsMoved) {
                    return true;
                }
            }
            return false;
        }

        /** Makes the latest schedule of a feasible route, as the earliest one is made. */
        void makeLatest(Route route) {
            lookAt(route);
            System.arraycopy(highest, 0, latest, 0, MAX_STOPS);
            for (int pass = 0; pass <= size; pass++) {
                boolean stopsMoved = advanceStops();
                boolean dropsMoved = advanceDrops();
                if (!stopsMoved && !dropsMoved) {
                    return;
                }
            }
        }

        /** How long the vehicle waits before stop k in the earliest schedule. */
        int waitBefore(int k) {
            return earliest[k] - gap[k] - (k == 0 ? shiftFirst : earliest[k - 1]);
        }

        /** The ride time of a request of this route, in one of the route's schedules. */
        int minutesAboard(int[] times, int request) {
            int pickup = stopNumber[2 * request];
            int drop = stopNumber[2 * request + 1];
            return times[drop] - times[pickup] - problem.service;
        }

        /** Notes the loads and gaps of a route, and the bounds of its stops' times. */
        void lookAt(Route route) {
            int before = route.depot;
            int load = 0;
            size = route.size;
            shiftFirst = problem.shiftFirst[route.vehicle];
            greatestLoad = 0;
            for (int k = 0; k < size; k++) {
                int place = route.stops[k];
                load += problem.loadChange[place];
                loadAfter[k] = load;
                greatestLoad = load > greatestLoad ? load : greatestLoad;
                gap[k] = problem.travel[before][place] + (k == 0 ? 0 : problem.service);
                lowest[k] = problem.windowFirst[place];
                highest[k] = problem.windowLast[place];
                stopNumber[place] = k;
                pickupOf[k] = stopNumber[place - place % 2];
                longest[k] = problem.service + problem.limit[place / 2];
                before = place;
            }
            if (size > 0) {
                int start = shiftFirst + gap[0];
                lowest[0] = start > lowest[0] ? start : lowest[0];
                gap[size] = problem.travel[before][route.depot] + problem.service;
                int end = problem.shiftLast[route.vehicle] - gap[size];
                highest[size - 1] = end < highest[size - 1] ? end : highest[size - 1];
            }
        }

        /** Puts each stop off until it can be reached from the one before. */
        private boolean delayStops() {
            boolean moved = false;
            for (int k = 1; k < size; k++) {
                int least = earliest[k - 1] + gap[k];
                if (earliest[k] < least) {
                    earliest[k] = least;
                    moved = true;
                }
            }
            return moved;
        }

        /** Puts pickups off that are too long before their drops. (A pickup stands for itself here.) */
        private boolean delayPickups() {
            boolean moved = false;
            for (int k = size - 1; k > 0; k--) {
                int least = earliest[k] - longest[k];
                if (earliest[pickupOf[k]] < least) {
                    earliest[pickupOf[k]] = least;
                    moved = true;
                }
            }
            return moved;
        }

        private boolean isTooLate() {
            for (int k = 0; k < size; k++) {
                if (earliest[k] > highest[k]) {
                    return true;
                }
            }
            return false;
        }

        /** Brings each stop forward until the one behind it can be reached. */
        private boolean advanceStops() {
            boolean moved = false;
            for (int k = size - 2; k >= 0; k--) {
                int greatest = latest[k + 1] - gap[k + 1];
                if (latest[k] > greatest) {
                    latest[k] = greatest;
                    moved = true;
                }
            }
            return moved;
        }

        /** Brings drops forward that are too long after their pickups. (A pickup stands for itself here.) */
        private boolean advanceDrops() {
            boolean moved = false;
            for (int k = 1; k < size; k++) {
                int greatest = latest[pickupOf[k]] + longest[k];
                if (latest[k] > greatest) {
                    latest[k] = greatest;
                    moved = true;
                }
            }
            return moved;
        }
    }

    /** Looks for the best insertion of a request, into one route after another. */
    private static final class Inserter {
        boolean found = false;
        int cost = 0;
        int vehicle = NO_VEHICLE;
        int i = 0;
        int j = 0;
        private final Problem problem;
        private final Timetable timetable;
        private final Route trial = new Route(0);

        Inserter(Problem problem, Timetable timetable) {
            this.problem = problem;
            this.timetable = timetable;
        }

        /** The route that an insertion would make; it stands until the next one is asked for. */
        Route routeWith(Route route, int request, int pickup, int drop) {
            trial.become(route);
            trial.put(request, pickup, drop);
            return trial;
        }

        void startOver() {
            found = false;
            cost = NO_BOUND;
            vehicle = NO_VEHICLE;
        }

        /**
         * Tries a route. Only what costs less than all before is looked at closely: so the first
         * of equal ones stays, and most need no schedule.
         */
        void tryRoute(Route route, int request) {
            for (int pickup = 0; pickup <= route.size; pickup++) {
                for (int drop = pickup + 1; drop <= route.size + 1; drop++) {
                    int added = problem.addedLength(route, request, pickup, drop);
                    if (added < cost && timetable.fits(routeWith(route, request, pickup, drop))) {
                        found = true;
                        cost = added;
                        vehicle = route.vehicle;
                        i = pickup;
                        j = drop;
                    }
                }
            }
        }

        /** Finds the best insertion among all vehicles but one. */
        void tryAllBut(int except, Plan plan, int request) {
            startOver();
            for (int v = 0; v < problem.vehicles; v++) {
                if (v != except) {
                    tryRoute(plan.routes[v], request);
                }
            }
        }

        /** Carries out what was found; false if nothing was. */
        boolean carryOut(Plan plan, int request) {
            if (found) {
                plan.put(request, vehicle, i, j);
            }
            return found;
        }
    }

    /** Looks for the best chain or improvement, and makes the plan that comes of it. */
    private static final class Mover {
        boolean found = false;
        /** By how much all routes together become longer. */
        int change = 0;
        int firstMoved = 0;
        int secondMoved = 0;
        final Plan outcome = new Plan();
        private final Problem problem;
        private final Inserter inserter;
        private final Plan begun = new Plan();
        private final Plan work = new Plan();
        private int lengthBefore = 0;

        Mover(Problem problem, Inserter inserter) {
            this.problem = problem;
            this.inserter = inserter;
        }

        void findChain(Plan plan, int request) {
            startOver(plan, NO_BOUND);
            for (int a = 0; a < problem.requests; a++) {
                tryShortChain(plan, request, a);
            }
            if (found) {
                return;
            }
            for (int a = 0; a < problem.requests; a++) {
                tryLongChains(plan, request, a);
            }
        }

        void findImprovement(Plan plan) {
            startOver(plan, 0);
            for (int request = 0; request < problem.requests; request++) {
                if (plan.vehicleOf[request] != NO_VEHICLE) {
                    work.become(plan);
                    work.take(request);
                    inserter.tryAllBut(NO_VEHICLE, work, request);
                    if (inserter.carryOut(work, request)) {
                        keepIfBest(request, request);
                    }
                }
            }
        }

        private void startOver(Plan plan, int bound) {
            found = false;
            change = bound;
            lengthBefore = problem.totalLength(plan);
        }

        private void tryShortChain(Plan plan, int request, int a) {
            int left = plan.vehicleOf[a];
            work.become(plan);
            if (displace(work, request, a)) {
                inserter.tryAllBut(left, work, a);
                if (inserter.carryOut(work, a)) {
                    keepIfBest(a, SHORT_CHAIN);
                }
            }
        }

        /** Tries the long chains that begin with a; what they have in common is done once. */
        private void tryLongChains(Plan plan, int request, int a) {
            begun.become(plan);
            if (!displace(begun, request, a)) {
                return;
            }
            for (int b = 0; b < problem.requests; b++) {
                int left = plan.vehicleOf[b];
                if (left == NO_VEHICLE || left == plan.vehicleOf[a]) {
                    continue;
                }
                work.become(begun);
                if (displace(work, a, b)) {
                    inserter.tryAllBut(left, work, b);
                    if (inserter.carryOut(work, b)) {
                        keepIfBest(a, b);
                    }
                }
            }
        }

        /** Removes a request, if it is assigned, and inserts another into its vehicle, if it fits. */
        private boolean displace(Plan changed, int in, int out) {
            int vehicle = changed.vehicleOf[out];
            if (vehicle == NO_VEHICLE) {
                return false;
            }
            changed.take(out);
            inserter.startOver();
            inserter.tryRoute(changed.routes[vehicle], in);
            return inserter.carryOut(changed, in);
        }

        /** Keeps the plan at hand if it is shorter than all that were kept before. */
        private void keepIfBest(int first, int second) {
            int newChange = problem.totalLength(work) - lengthBefore;
            if (newChange < change) {
                found = true;
                change = newChange;
                firstMoved = first;
                secondMoved = second;
                outcome.become(work);
            }
        }
    }
}
