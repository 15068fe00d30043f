import java.util.Arrays;
import java.util.function.ToIntFunction;

/** What the history keeps, how much of it, when it becomes empty, and what undo() restores. */
public final class HistoryTest extends Checks {
    public static void main(String[] args) {
        nothingToUndo();
        eachCallIsNoted();
        refusedCallsAreNotNoted();
        questionsAreNotNoted();
        undoIsNotNoted();
        noMoreThanTen();
        tenPlansRestored();
        ringGoesRound();
        undoneAndGoneOn();
        emptiedByEachChange();
        emptiedByChangesOfOpenRequests();
        keptByWhatChangesNothing();
        keptByRefusedChanges();
        valueSetThereAndBack();
        filledAgain();
        undoRestoresPlansOnly();
        fullRouteRestored();
        end("the history is as is due");
    }

    /** Vehicles of capacity 3, 2 and 1 with time for one ride each: ride 1 in the first, ride 2 in the second. */
    private static SharedRides busy() {
        SharedRides x = new SharedRides();
        for (int capacity : row(3, 2, 1)) x.addVehicle(0, 0, capacity, 0, 62);
        for (int load : row(3, 2, 1)) x.addRequest(10, 0, 30, 0, load, 20);
        x.assignTo(1, 0);
        x.assignTo(2, 1);
        return x;
    }

    /** A vehicle with room for all of twelve requests, which are open. */
    private static SharedRides roomy() {
        SharedRides x = new SharedRides();
        x.addVehicle(0, 0, 8, 0, 5000);
        x.addVehicle(50, 0, 8, 0, 5000);
        for (int r = 0; r < 12; r++) x.addRequest(2 * r, 0, 2 * r + 1, 0, 1, 1000);
        return x;
    }

    private static void nothingToUndo() {
        part = "promise 23, NONE if it is empty";
        SharedRides x = new SharedRides();
        due(NONE, x.undo(), "undo() of a new object");
        due(NONE, x.undo(), "undo() again");
        due(NONE, roomy().undo(), "undo() before any plan");
        SharedRides y = busy();
        due(1, y.undo(), "undo()");
        due(0, y.undo(), "undo()");
        int[] before = shown(y);
        due(NONE, y.undo(), "undo() of nothing");
        due(NONE, y.undo(), "undo() of nothing, again");
        dueRow("shown", before, shown(y));
    }

    /** A call that is noted: one plan more, and undo() brings back all that was before. */
    private static void noted(String call, ToIntFunction<SharedRides> change) {
        SharedRides before = busy();
        SharedRides x = busy();
        due(2, x.count(5), "count(5) before " + call);
        int answer = change.applyAsInt(x);
        if (isRefusal(answer)) due(0, answer, call);
        due(3, x.count(5), "count(5) after " + call);
        SharedRides y = busy();
        change.applyAsInt(y);
        due(2, y.undo(), "undo() of " + call);
        dueRow("shown after undo() of " + call, shown(before), shown(y));
        due(1, y.undo(), "undo() of the one before");
        dueRow("plan after the second undo()", row(2, 3, -1, -1, -1), plan(y));
        due(0, y.undo(), "undo() of the first one");
        dueRow("plan after the third undo()", row(-1, -1, -1), plan(y));
    }

    private static void eachCallIsNoted() {
        part = "the plan before each call of remove(), chain(), insert(), assignTo(), assign() and improve() is kept";
        noted("remove(1)", x -> x.remove(1));
        noted("chain(0)", x -> x.chain(0));
        SharedRides x = roomy();
        due(0, x.insert(0, 1, 0, 1) - 100, "insert(0, 1, 0, 1)");
        due(1, x.count(5), "count(5) after insert");
        due(6, x.assignTo(1, 0), "assignTo(1, 0)");
        due(2, x.count(5), "count(5) after assignTo");
        due(1, x.assign(2), "assign(2)");
        due(3, x.count(5), "count(5) after assign");
        // Request 0 goes along the way of vehicle 0, and vehicle 1 from 50 to 4 only.
        due(8, x.improve(), "improve()");
        due(4, x.count(5), "count(5) after improve");
        due(3, x.undo(), "undo() of improve");
        dueRow("plan", row(2, 3, -1, 4, 0, 1, 5, -1), plan(x));
        due(2, x.undo(), "undo() of assign");
        dueRow("plan", row(2, 3, -1, 0, 1, -1), plan(x));
        due(1, x.undo(), "undo() of assignTo");
        dueRow("plan", row(-1, 0, 1, -1), plan(x));
        due(0, x.undo(), "undo() of insert");
        dueRow("plan", row(-1, -1), plan(x));
    }

    private static void refusedCallsAreNotNoted() {
        part = "a call that reports an error or NONE is not noted";
        SharedRides x = busy();
        x.chain(0);
        due(3, x.count(5), "count(5)");
        for (int r : row(-1, 0, 3)) {
            x.assign(r);
            x.assignTo(r, 0);
            x.insert(r, 0, 0, 1);
            x.chain(r);
        }
        x.assignTo(0, 3);
        x.insert(0, 0, 0, 9);
        x.remove(-1);
        x.remove(3);
        due(NONE, x.improve(), "improve()");
        due(3, x.count(5), "count(5) after refused calls");
        x.remove(0);
        due(NOT_ASSIGNED, x.remove(0), "remove(0)");
        due(NOT_FEASIBLE, x.insert(0, 1, 0, 1), "insert(0, 1, 0, 1)");
        due(NOT_FEASIBLE, x.assignTo(0, 1), "assignTo(0, 1)");
        due(4, x.count(5), "count(5)");
        due(NONE, new SharedRides().improve(), "improve() of a new object");
    }

    private static void questionsAreNotNoted() {
        part = "a call that only asks is not noted";
        SharedRides x = busy();
        x.remove(2);
        x.count(3);
        x.request(1, 0);
        x.vehicle(0, 6);
        x.stop(0, 0, 2);
        x.rideTime(1, true);
        x.depotTime(0, true);
        due(60, x.cost(2, 1, 0, 1), "cost(2, 1, 0, 1)");
        due(1, x.best(2, 1), "best(2, 1)");
        due(10060, x.chainCost(0), "chainCost(0)");
        due(3, x.count(5), "count(5)");
        dueRow("plan", row(2, 3, -1, -1, -1), plan(x));
    }

    private static void undoIsNotNoted() {
        part = "undo() takes the latest plan out of the history";
        SharedRides x = busy();
        x.remove(1);
        due(2, x.undo(), "undo()");
        due(2, x.count(5), "count(5)");
        due(1, x.undo(), "undo(), not of the undo()");
        due(NONE, x.request(2, 0), "request(2, 0)");
        due(0, x.request(1, 0), "request(1, 0)");
    }

    private static void noMoreThanTen() {
        part = "a history of at most 10 plans";
        SharedRides x = roomy();
        for (int r = 0; r < 12; r++) {
            due(r < 10 ? r : 10, x.count(5), "count(5) after " + r);
            x.insert(r, 0, 2 * r, 2 * r + 1);
        }
        due(10, x.count(5), "count(5) after 12");
        part = "when one more is recorded, the oldest one is dropped";
        for (int k = 9; k >= 0; k--) {
            due(k, x.undo(), "undo()");
            due(12 - (k + 2), x.count(2), "count(2), open requests");
        }
        due(NONE, x.undo(), "undo() of the plan that was dropped");
        due(10, x.count(2), "count(2), open requests");
    }

    private static void tenPlansRestored() {
        part = "ten plans, none of which is dropped";
        SharedRides x = roomy();
        for (int r = 0; r < 10; r++) x.insert(r, 0, 2 * r, 2 * r + 1);
        due(10, x.count(5), "count(5)");
        for (int k = 9; k >= 0; k--) due(k, x.undo(), "undo()");
        due(12, x.count(2), "count(2)");
        due(NONE, x.undo(), "undo()");
        part = "eleven plans, the first of which is dropped";
        for (int r = 0; r < 11; r++) x.insert(r, 0, 2 * r, 2 * r + 1);
        for (int k = 9; k >= 0; k--) due(k, x.undo(), "undo()");
        due(11, x.count(2), "count(2)");
        due(NONE, x.undo(), "undo()");
    }

    /** Twenty-three plans, of which the latest ten remain: requests 0 to 2 go to and fro. */
    private static void ringGoesRound() {
        part = "plans dropped many times over";
        SharedRides x = roomy();
        int[][] plans = new int[23][];
        for (int k = 0; k < 23; k++) {
            plans[k] = plan(x);
            if (k % 6 < 3) x.insert(k % 3, k / 6 % 2, 0, 1);
            else x.remove(k % 3);
            due(Math.min(k + 1, 10), x.count(5), "count(5)");
        }
        for (int k = 22; k >= 13; k--) {
            due(k - 13, x.undo(), "undo()");
            dueRow("plan " + k, plans[k], plan(x));
        }
        due(NONE, x.undo(), "undo()");
        dueRow("plan 13", plans[13], plan(x));
    }

    private static void undoneAndGoneOn() {
        part = "calls after undo()";
        SharedRides x = roomy();
        for (int r = 0; r < 12; r++) x.insert(r, 0, 2 * r, 2 * r + 1);
        for (int k = 0; k < 3; k++) x.undo();
        // requests 0 to 8 are in; seven plans are left
        due(7, x.count(5), "count(5)");
        x.insert(11, 1, 0, 1);
        due(8, x.count(5), "count(5)");
        due(7, x.undo(), "undo()");
        due(NONE, x.request(11, 0), "request(11, 0)");
        due(0, x.request(8, 0), "request(8, 0)");
        due(6, x.undo(), "undo()");
        due(NONE, x.request(8, 0), "request(8, 0)");
        for (int r = 8; r < 12; r++) x.assign(r);
        due(10, x.count(5), "count(5)");
        for (int k = 9; k >= 0; k--) due(k, x.undo(), "undo()");
        due(10, x.count(2), "count(2)");
    }

    private static void emptied(String call, ToIntFunction<SharedRides> change) {
        SharedRides x = busy();
        due(2, x.count(5), "count(5) before " + call);
        int[] before = plan(x);
        int answer = change.applyAsInt(x);
        if (isRefusal(answer)) due(0, answer, call);
        due(0, x.count(5), "count(5) after " + call);
        due(NONE, x.undo(), "undo() after " + call);
        dueRow("plan after " + call, before, call.startsWith("addVehicle") ? withoutLast(plan(x)) : plan(x));
    }

    private static int[] withoutLast(int[] plan) {
        return Arrays.copyOf(plan, Math.max(0, plan.length - 1));
    }

    private static void emptiedByEachChange() {
        part = "the history becomes empty when a vehicle or a request is added, or a value gets another one";
        emptied("addVehicle", x -> x.addVehicle(0, 0, 1, 0, 0));
        emptied("addRequest", x -> x.addRequest(0, 0, 0, 0, 1, 0));
        emptied("setWindow(1, false), first", x -> x.setWindow(1, false, 1, 5000));
        emptied("setWindow(1, false), last", x -> x.setWindow(1, false, 0, 4999));
        emptied("setWindow(1, false), both", x -> x.setWindow(1, false, 10, 10));
        emptied("setWindow(1, true), first", x -> x.setWindow(1, true, 1, 5000));
        emptied("setWindow(1, true), last", x -> x.setWindow(1, true, 0, 4999));
        emptied("setWindow(1, true), both", x -> x.setWindow(1, true, 31, 31));
        emptied("setLimit(1, 21)", x -> x.setLimit(1, 21));
        emptied("setLoad(1, 1)", x -> x.setLoad(1, 1));
        emptied("setLoad(1, 3)", x -> x.setLoad(1, 3));
        emptied("setService(0)", x -> x.setService(0));
    }

    private static void emptiedByChangesOfOpenRequests() {
        part = "the history becomes empty also when values of an open request change";
        emptied("setWindow(0, false)", x -> x.setWindow(0, false, 0, 4999));
        emptied("setWindow(0, true)", x -> x.setWindow(0, true, 5000, 5000));
        emptied("setLimit(0, 0)", x -> x.setLimit(0, 0));
        emptied("setLoad(0, 8)", x -> x.setLoad(0, 8));
    }

    private static void kept(int want, String call, ToIntFunction<SharedRides> change) {
        SharedRides x = busy();
        due(want, change.applyAsInt(x), call);
        due(2, x.count(5), "count(5) after " + call);
        due(1, x.undo(), "undo() after " + call);
    }

    private static void keptByWhatChangesNothing() {
        part = "the history stays when a value is set to what it was";
        kept(0, "setWindow(1, false, 0, 5000)", x -> x.setWindow(1, false, 0, 5000));
        kept(0, "setWindow(1, true, 0, 5000)", x -> x.setWindow(1, true, 0, 5000));
        kept(0, "setWindow(0, true, 0, 5000)", x -> x.setWindow(0, true, 0, 5000));
        kept(20, "setLimit(1, 20)", x -> x.setLimit(1, 20));
        kept(20, "setLimit(0, 20)", x -> x.setLimit(0, 20));
        kept(2, "setLoad(1, 2)", x -> x.setLoad(1, 2));
        kept(3, "setLoad(0, 3)", x -> x.setLoad(0, 3));
        kept(1, "setService(1)", x -> x.setService(1));
    }

    private static void keptByRefusedChanges() {
        part = "the history stays when a change is refused";
        kept(BAD_VALUE, "addVehicle, bad", x -> x.addVehicle(0, 0, 9, 0, 0));
        kept(BAD_VALUE, "addRequest, bad", x -> x.addRequest(0, 0, 0, 0, 9, 0));
        kept(UNKNOWN, "setWindow(3, false, 0, 1)", x -> x.setWindow(3, false, 0, 1));
        kept(BAD_VALUE, "setWindow(1, false, 1, 0)", x -> x.setWindow(1, false, 1, 0));
        kept(NOT_FEASIBLE, "setWindow(1, false, 11, 5000)", x -> x.setWindow(1, false, 11, 5000));
        kept(UNKNOWN, "setLimit(3, 0)", x -> x.setLimit(3, 0));
        kept(BAD_VALUE, "setLimit(1, 1001)", x -> x.setLimit(1, 1001));
        kept(NOT_FEASIBLE, "setLimit(1, 19)", x -> x.setLimit(1, 19));
        kept(UNKNOWN, "setLoad(3, 1)", x -> x.setLoad(3, 1));
        kept(BAD_VALUE, "setLoad(1, 0)", x -> x.setLoad(1, 0));
        kept(NOT_FEASIBLE, "setLoad(1, 4)", x -> x.setLoad(1, 4));
        kept(BAD_VALUE, "setService(11)", x -> x.setService(11));
        kept(NOT_FEASIBLE, "setService(2)", x -> x.setService(2));
        part = "the history stays when there is no more room";
        SharedRides x = new SharedRides();
        for (int v = 0; v < 4; v++) x.addVehicle(0, 0, 8, 0, 5000);
        for (int r = 0; r < 12; r++) x.addRequest(0, 0, 0, 0, 1, 0);
        x.assign(0);
        due(FULL, x.addVehicle(0, 0, 8, 0, 5000), "addVehicle");
        due(FULL, x.addRequest(0, 0, 0, 0, 1, 0), "addRequest");
        due(1, x.count(5), "count(5)");
        due(0, x.undo(), "undo()");
        due(12, x.count(2), "count(2)");
    }

    private static void valueSetThereAndBack() {
        part = "a value that is set to another one and back has emptied the history";
        SharedRides x = busy();
        due(20, x.setLimit(1, 30), "setLimit(1, 30)");
        due(30, x.setLimit(1, 20), "setLimit(1, 20)");
        due(0, x.count(5), "count(5)");
        SharedRides y = busy();
        due(1, y.setWindow(2, true, 31, 31), "setWindow(2, true, 31, 31)");
        due(1, y.setWindow(2, true, 0, 5000), "setWindow(2, true, 0, 5000)");
        due(NONE, y.undo(), "undo()");
    }

    private static void filledAgain() {
        part = "a history that was full and was emptied";
        SharedRides x = roomy();
        for (int k = 0; k < 13; k++) {
            if (k % 2 == 0) x.insert(0, 0, 0, 1);
            else x.remove(0);
        }
        due(10, x.count(5), "count(5)");
        due(1, x.setLoad(5, 2), "setLoad(5, 2)");
        due(0, x.count(5), "count(5)");
        due(NONE, x.undo(), "undo()");
        for (int r = 1; r < 12; r++) {
            x.insert(r, 0, 2 * r, 2 * r + 1);
            due(Math.min(10, r), x.count(5), "count(5)");
        }
        for (int k = 9; k >= 0; k--) {
            due(k, x.undo(), "undo()");
            due(10 - k, x.count(2), "count(2)");
        }
        due(NONE, x.undo(), "undo()");
    }

    private static void undoRestoresPlansOnly() {
        part = "a plan is the routes of all vehicles";
        SharedRides x = roomy();
        x.insert(3, 1, 0, 1);
        x.insert(5, 1, 1, 3);
        x.insert(4, 0, 0, 1);
        x.remove(3);
        x.undo();
        dueRow("plan", row(8, 9, -1, 6, 10, 7, 11, -1), plan(x));
        x.undo();
        dueRow("plan", row(-1, 6, 10, 7, 11, -1), plan(x));
        x.undo();
        dueRow("plan", row(-1, 6, 7, -1), plan(x));
        dueRow("request(5)", row(NONE, 1, 1000), x.request(5, 0), x.request(5, 1), x.request(5, 2));
    }

    /** The last of 24 stops is of another request after each call. */
    private static void fullRouteRestored() {
        part = "a plan with all 12 requests in one route is restored";
        SharedRides x = new SharedRides();
        x.addVehicle(0, 0, 8, 0, 5000);
        for (int r = 0; r < 12; r++) x.addRequest(0, 0, 0, 0, 1, 1000);
        for (int r = 0; r < 12; r++) x.insert(r, 0, 2 * r, 2 * r + 1);
        int[] full = plan(x);
        x.remove(11);
        x.insert(11, 0, 0, 1);
        int[] turned = plan(x);
        due(21, turned[23], "the last stop");
        due(9, x.undo(), "undo()");
        due(8, x.undo(), "undo()");
        dueRow("plan", full, plan(x));
        x.remove(0);
        x.insert(0, 0, 22, 23);
        due(9, x.undo(), "undo()");
        due(8, x.undo(), "undo()");
        dueRow("plan", full, plan(x));
    }
}
