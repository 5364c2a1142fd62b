/** Sections 2 and 3 of the document: a test for each sentence that names a bound of taxis, routes or offers. */
public final class RouteBoundsTests {
    private static final String TOWN = "zones 4;road 0 1 10;road 1 2 5;road 0 2 20;taxi 4 0 0 1000;"
        + "tariff 100 20;discount 2 25;";

    public static void main(String[] args) {
        atMostFourTaxis();
        taxisFromNone();
        seats();
        shift();
        freeAtFirst();
        persons();
        latestPickup();
        latestPickupStays();
        detourLimit();
        mostMinutesAboard();
        twelveStops();
        twelfthStopCounts();
        twelfthStopIsKept();
        leavesAtGreatest();
        leavesWhenDone();
        presentForFirstStopOnly();
        leftAlready();
        arrives();
        doneAfterDwell();
        doneAfterPatience();
        leftBeforePresent();
        presentAsBefore();
        becomesFirst();
        restExactly();
        restByRuleAsItIs();
        stintBeforeFirstWay();
        seatsOnEachWay();
        seatsOfAbsent();
        seatsOfSix();
        seatsOnNoMinutes();
        pickupAtLatest();
        dropAtMost();
        dropOfOneAboard();
        stintExactly();
        stintBehindEachWay();
        endOfShift();
        noWayBetween();
        emptyRouteKeeps();
        dropBehindPickup();
        insertionKeepsLimits();
        insertionStops();
        nothingAhead();
        extraOfWays();
        leastExtra();
        firstPlaceOfPickup();
        firstPlaceOfDrop();
        offerOfLeastExtra();
        offerOfEarliest();
        offerOfLowest();
        refused();
        openTill();
        openTillAsItIsThen();
        acceptedAnew();
        Check.end();
    }

    private static SharedTaxis twoZones(String more) {
        return Check.desk("zones 2;road 0 1 10;" + more);
    }

    private static void asked(SharedTaxis x, boolean offered, int from, int to, int persons, int delay, int detour) {
        int ride = x.ask(from, to, persons, delay, detour);
        Check.due("state of ride " + ride, x.ride(ride, 0), offered ? 0 : 4);
    }

    private static void keeps(SharedTaxis x, boolean due) {
        Check.due("keeps", x.keeps(0) ? 1 : 0, due ? 1 : 0);
    }

    // ---- 2. Taxis

    private static void atMostFourTaxis() {
        Check.says("There are at most 4 taxis");
        SharedTaxis x = twoZones("taxi 1 0 0 99;taxi 1 0 0 99;taxi 1 0 0 99;taxi 1 0 0 99;tariff 5 1;");
        String before = Check.everything(x);
        for (int taxi = 0; taxi < 4; taxi++) {
            Check.book(x, 0, 1, 1, 0, 0);
            Check.due("taxi", x.ride(taxi, 9), taxi);
        }
        Check.due("stops", x.size(6), 8);
        Check.due("advance", x.advance(1), 4);
        Check.due("advance", x.advance(11), 4);
        for (int taxi = 0; taxi < 4; taxi++) {
            Check.dueText("account", Check.account(x, taxi), "15 0 10 10 0 10");
        }
        for (int i = 0; i < 10; i++) {
            x.undo();
        }
        Check.dueText("everything", Check.everything(x), before);
    }

    private static void taxisFromNone() {
        Check.says("at most 4 taxis, numbered from 0");
        SharedTaxis x = twoZones("taxi 1 0 0 9;taxi 2 0 0 9;taxi 3 0 0 9;taxi 4 0 0 9;");
        for (int taxi = 0; taxi < 4; taxi++) {
            Check.due("seats", x.taxi(taxi, 0), taxi + 1);
        }
        Check.noSuch("taxi", () -> x.taxi(4, 0));
        Check.noSuch("taxi", () -> x.taxi(-1, 0));
        SharedTaxis none = twoZones("");
        Check.noSuch("taxi", () -> none.taxi(0, 0));
    }

    private static void seats() {
        Check.says("each with seats (1 to 6)");
        asked(twoZones("taxi 1 0 0 99;"), true, 0, 1, 1, 0, 0);
        asked(twoZones("taxi 1 0 0 99;"), false, 0, 1, 2, 0, 0);
        asked(twoZones("taxi 5 0 0 99;"), false, 0, 1, 6, 0, 0);
        asked(twoZones("taxi 6 0 0 99;"), true, 0, 1, 6, 0, 0);
        Check.loadFails("zones 2;taxi 0 0 0 1;", 2, 13);
        Check.loadFails("zones 2;taxi 7 0 0 1;", 2, 13);
    }

    private static void shift() {
        Check.says("a shift from its begin to its end (0 to 2879)");
        SharedTaxis x = twoZones("taxi 1 0 0 2879;taxi 1 0 2878 2879;taxi 1 0 0 1;");
        Check.dueText("taxi", Check.taxi(x, 0), "1 0 0 0 2879 0 0 0 0 -1");
        Check.dueText("taxi", Check.taxi(x, 1), "1 0 2878 2878 2879 0 0 0 0 -1");
        Check.dueText("taxi", Check.taxi(x, 2), "1 0 0 0 1 0 0 0 0 -1");
        Check.loadFails("zones 2;taxi 1 0 2880 2879;", 2, 17);
        Check.loadFails("zones 2;taxi 1 0 0 2880;", 2, 19);
    }

    private static void freeAtFirst() {
        Check.says("the time since when it is free there (at first the begin of its shift)");
        SharedTaxis x = twoZones("taxi 1 0 0 99;taxi 1 1 40 99;");
        Check.due("free", x.taxi(0, 2), 0);
        Check.due("free", x.taxi(1, 2), 40);
        Check.due("zone", x.taxi(1, 1), 1);
        x.advance(60);
        Check.due("free", x.taxi(0, 2), 0);
        Check.due("free", x.taxi(1, 2), 40);
    }

    private static void persons() {
        Check.says("persons (1 to 6)");
        SharedTaxis x = twoZones("taxi 6 0 0 99;");
        Check.illegal("ask", () -> x.ask(0, 1, 0, 0, 0));
        Check.illegal("ask", () -> x.ask(0, 1, 7, 0, 0));
        Check.illegal("ask", () -> x.ask(0, 1, -1, 0, 0));
        Check.due("ask", x.ask(0, 1, 1, 0, 0), 0);
        Check.due("ask", x.ask(0, 1, 6, 0, 0), 1);
        Check.due("persons", x.ride(0, 3), 1);
        Check.due("persons", x.ride(1, 3), 6);
    }

    private static void latestPickup() {
        Check.says("a latest pickup, which is its ready time plus 'wait'");
        SharedTaxis x = twoZones("taxi 4 0 0 99;rule wait 0;");
        x.ask(0, 1, 1, 0, 0);
        Check.due("latest", x.ride(0, 5), 0);
        Check.due("state", x.ride(0, 0), 0);
        x.advance(7);
        x.setRule(0, 60);
        x.ask(0, 1, 1, 600, 0);
        Check.due("latest", x.ride(1, 5), 667);
    }

    private static void latestPickupStays() {
        Check.says("(as it is when the ride is asked for)");
        SharedTaxis x = twoZones("taxi 4 1 0 99;rule wait 10;");
        x.ask(0, 1, 1, 0, 0);
        x.setRule(0, 0);
        Check.due("latest", x.ride(0, 5), 10);
        Check.due("accept", x.accept(0), 10);
        SharedTaxis y = twoZones("taxi 4 1 0 99;rule wait 9;");
        y.ask(0, 1, 1, 0, 0);
        y.setRule(0, 60);
        Check.due("latest", y.ride(0, 5), 9);
        Check.due("state", y.ride(0, 0), 4);
    }

    private static void detourLimit() {
        Check.says("a detour limit (0 to 200 percent)");
        SharedTaxis x = twoZones("taxi 4 0 0 99;");
        Check.illegal("ask", () -> x.ask(0, 1, 1, 0, -1));
        Check.illegal("ask", () -> x.ask(0, 1, 1, 0, 201));
        x.ask(0, 1, 1, 0, 0);
        x.ask(0, 1, 1, 0, 200);
        Check.due("limit", x.ride(0, 6), 0);
        Check.due("limit", x.ride(1, 6), 200);
    }

    private static void mostMinutesAboard() {
        Check.says("direct minutes * (100 + limit) / 100, the fraction cut off");
        int[][] due = {{7, 0, 7}, {7, 14, 7}, {7, 15, 8}, {7, 28, 8}, {7, 29, 9}, {7, 200, 21}, {1, 99, 1}, {1, 100, 2},
            {1, 199, 2}, {1, 200, 3}, {99, 1, 99}, {99, 2, 100}, {99, 200, 297}};
        for (int[] d : due) {
            SharedTaxis x = Check.desk("zones 2;road 0 1 " + d[0] + ";");
            x.ask(1, 0, 1, 0, d[1]);
            Check.due("direct", x.ride(0, 7), d[0]);
            Check.due("most of " + d[0] + " with " + d[1], x.ride(0, 8), d[2]);
        }
    }

    /** Rides 0 to 5 in one taxi: +5 +4 +3 +2 +1 +0 -5 -4 -3 -2 -1 -0. */
    private static SharedTaxis fullRoute(int lastDetour) {
        SharedTaxis x = twoZones("taxi 6 0 0 999;rule wait 60;rule dwell 0;tariff 0 1;");
        for (int i = 0; i < 6; i++) {
            Check.book(x, 0, 1, 1, 0, i == 0 ? lastDetour : 200);
        }
        Check.dueText("format", Check.format(x, 0), "+5@0 +4@0 +3@0 +2@0 +1@0 +0@0 -5@1 -4@1 -3@1 -2@1 -1@1 -0@1");
        return x;
    }

    private static void twelveStops() {
        Check.says("The route of a taxi is a list of at most 12 stops");
        SharedTaxis x = fullRoute(200);
        Check.due("stops", x.taxi(0, 5), 12);
        Check.due("ride of the twelfth stop", x.stop(0, 11, 0), 0);
        Check.due("arrival at the twelfth stop", x.stop(0, 11, 4), 10);
        asked(x, false, 0, 1, 1, 0, 200);
        asked(x, false, 1, 0, 1, 600, 200);
        Check.due("advance", x.advance(10), 12);
        Check.due("stops", x.taxi(0, 5), 0);
        Check.due("done", x.rides(3), 6);
    }

    private static void twelfthStopCounts() {
        Check.says("for each ride whose drop is in the route, ..; a list of at most 12 stops");
        SharedTaxis x = fullRoute(0);
        keeps(x, true);
        // Each party is aboard for 15 minutes then; that of the twelfth stop alone must not.
        x.setRule(1, 1);
        Check.due("arrival at the twelfth stop", x.stop(0, 11, 4), 21);
        keeps(x, false);
        SharedTaxis y = fullRoute(50);
        y.setRule(1, 1);
        keeps(y, true);
    }

    private static void twelfthStopIsKept() {
        Check.says("a list of at most 12 stops; its stops are taken from the route; Undoing restores everything");
        SharedTaxis x = fullRoute(200);
        String before = Check.everything(x);
        Check.due("cancel", x.cancel(5), 10);
        Check.dueText("format", Check.format(x, 0), "+4@0 +3@0 +2@0 +1@0 +0@0 -4@1 -3@1 -2@1 -1@1 -0@1");
        Check.book(x, 1, 0, 1, 60, 0);
        Check.dueText("format", Check.format(x, 0), "+4@0 +3@0 +2@0 +1@0 +0@0 -4@1 -3@1 -2@1 -1@1 -0@1 +6@1 -6@0");
        x.undo();
        x.undo();
        x.undo();
        Check.dueText("everything", Check.everything(x), before);
    }

    /** The begin of the shift, the time of asking, the ready time, and when the taxi leaves for a zone 10 minutes away. */
    private static void leavesAtGreatest() {
        Check.says("The taxi leaves for it at the greatest of: ..");
        int[][] due = {{30, 0, 0, 30}, {30, 5, 40, 30}, {30, 5, 41, 31}, {30, 30, 40, 30}, {0, 5, 5, 5}, {0, 5, 15, 5},
            {0, 5, 16, 6}, {5, 5, 15, 5}, {6, 5, 15, 6}, {4, 5, 15, 5}, {0, 0, 600, 590}};
        for (int[] d : due) {
            SharedTaxis x = twoZones("taxi 4 0 " + d[0] + " 999;rule wait 60;");
            if (d[1] > 0) {
                x.advance(d[1]);
            }
            Check.book(x, 1, 0, 1, d[2] - d[1], 0);
            Check.due("leaves for the pickup", x.stop(0, 0, 3), d[3]);
            Check.due("leaves for the drop", x.stop(0, 1, 3), d[3] + 11);
        }
    }

    private static void leavesWhenDone() {
        Check.says("(behind the stop before, the time when that one is done)");
        SharedTaxis x = Check.desk(TOWN);
        Check.book(x, 0, 1, 1, 0, 0);
        Check.book(x, 2, 1, 1, 17, 0);
        Check.dueText("times", Check.times(x, 0), "0/0/1 1/11/12 12/17/18 18/23/24");
        x.cancel(1);
        Check.book(x, 2, 1, 1, 18, 0);
        Check.dueText("times", Check.times(x, 0), "0/0/1 1/11/12 13/18/19 19/24/25");
    }

    private static void presentForFirstStopOnly() {
        Check.says("for the first stop, the present time");
        SharedTaxis x = Check.desk(TOWN + "rule dwell 9;");
        Check.book(x, 0, 1, 1, 0, 0);
        x.advance(6);
        // The first stop is done at 2 now, so the second one is left for then, though that has passed.
        x.setRule(1, 2);
        Check.dueText("times", Check.times(x, 0), "0/0/2 2/12/14");
    }

    private static void leftAlready() {
        Check.says("(If the taxi has left already for its first stop, it is the time when it left.)");
        SharedTaxis x = twoZones("taxi 4 0 3 999;rule wait 60;");
        Check.book(x, 1, 0, 1, 0, 0);
        for (int now = 1; now <= 13; now++) {
            x.advance(1);
            Check.dueText("times at " + now, Check.times(x, 0), "3/13/14 14/24/25");
        }
    }

    private static void arrives() {
        Check.says("It arrives when the minutes of the way have passed");
        SharedTaxis x = Check.desk("zones 3;road 0 1 1;road 1 2 99;taxi 4 0 0 999;rule wait 60;");
        Check.book(x, 0, 1, 1, 0, 0);
        Check.dueText("times", Check.times(x, 0), "0/0/1 1/2/3");
        Check.book(x, 1, 2, 1, 0, 0);
        Check.dueText("times", Check.times(x, 0), "0/0/1 1/2/3 3/3/4 4/103/104");
    }

    private static void doneAfterDwell() {
        Check.says("The stop is done 'dwell' minutes later");
        SharedTaxis x = twoZones("taxi 4 0 0 999;rule dwell 0;");
        Check.book(x, 0, 1, 1, 5, 0);
        Check.dueText("times", Check.times(x, 0), "5/5/5 5/15/15");
        x.setRule(1, 9);
        Check.dueText("times", Check.times(x, 0), "5/5/14 14/24/33");
        x.setRule(1, 0);
        Check.due("advance", x.advance(4), 0);
        Check.due("advance", x.advance(1), 1);
        Check.due("advance", x.advance(9), 0);
        Check.due("advance", x.advance(1), 1);
    }

    private static void doneAfterPatience() {
        Check.says("a pickup of a party that is told to be absent, 'patience' minutes later");
        int[][] due = {{0, 12}, {30, 42}};
        for (int[] d : due) {
            SharedTaxis x = Check.desk(TOWN + "rule dwell 2;rule patience " + d[0] + ";");
            Check.book(x, 0, 1, 1, 0, 0);
            Check.book(x, 1, 2, 1, 10, 0);
            // Only the pickup of that party takes so long: the other stops take 2 minutes.
            x.absent(1);
            Check.dueText("times", Check.times(x, 0), "0/0/2 2/12/14 14/14/" + (14 + d[0]));
            Check.due("advance", x.advance(14 + d[0]), 3);
            Check.due("pickup done", x.ride(1, 10), 14 + d[0]);
        }
    }

    private static void leftBeforePresent() {
        Check.says("A taxi has left for its first stop if the time when it leaves for it is less than the present time");
        SharedTaxis x = twoZones("taxi 4 0 0 999;");
        Check.book(x, 1, 0, 1, 30, 0);
        x.advance(19);
        Check.due("left at 19", x.taxi(0, 9), -1);
        x.advance(1);
        Check.due("left at 20", x.taxi(0, 9), -1);
        Check.due("cancel", x.cancel(0), 0);
        x.undo();
        x.advance(1);
        Check.due("left at 21", x.taxi(0, 9), 20);
        Check.due("cancel", x.cancel(0), -3);
        SharedTaxis y = twoZones("taxi 4 0 0 999;");
        Check.book(y, 0, 1, 1, 0, 0);
        Check.due("left as soon as it is booked", y.taxi(0, 9), -1);
    }

    private static void presentAsBefore() {
        Check.says("While minutes pass (advance), the present time counts in this as it was before, till they have passed");
        SharedTaxis x = Check.desk(TOWN);
        x.advance(5);
        Check.book(x, 0, 1, 1, 0, 0);
        Check.due("advance", x.advance(100), 2);
        Check.due("pickup done", x.ride(0, 10), 6);
        Check.due("arrived", x.ride(0, 11), 16);
        Check.due("free", x.taxi(0, 2), 17);
        // A taxi that has not left yet leaves on the way through an advance.
        Check.book(x, 0, 1, 1, 50, 0);
        x.advance(60);
        Check.dueText("times", Check.times(x, 0), "156/166/167");
    }

    private static void becomesFirst() {
        Check.says("(so also for a stop that becomes the first one while they pass)");
        SharedTaxis x = Check.desk(TOWN);
        Check.book(x, 0, 1, 1, 5, 0);
        x.advance(6);
        Check.due("left at 6", x.taxi(0, 9), -1);
        x.undo();
        x.advance(7);
        Check.due("left at 7", x.taxi(0, 9), 6);
        x.undo();
        x.advance(9);
        Check.due("left at 9", x.taxi(0, 9), 6);
        Check.dueText("times", Check.times(x, 0), "6/16/17");
        // A first stop that is done in the past: the next one is left for at the time before the advance.
        SharedTaxis y = Check.desk(TOWN + "rule dwell 9;");
        Check.book(y, 0, 1, 1, 0, 0);
        y.advance(6);
        y.setRule(1, 2);
        Check.due("advance", y.advance(4), 1);
        Check.due("left", y.taxi(0, 9), 6);
        Check.dueText("times", Check.times(y, 0), "6/16/18");
    }

    private static void restExactly() {
        Check.says("if it leaves at least 'rest' minutes .. after it became free, its stint begins anew with 0 then");
        int[][] due = {{16, 10, 20}, {17, 0, 10}, {18, 0, 10}};
        for (int[] d : due) {
            SharedTaxis x = twoZones("taxi 4 0 0 999;rule rest 5;");
            Check.book(x, 0, 1, 1, 0, 0);
            Check.book(x, 1, 0, 1, d[0], 0);
            x.advance(12);
            Check.due("stint", x.taxi(0, 8), 10);
            x.advance(8);
            Check.due("stint behind the pickup at " + d[0], x.taxi(0, 8), d[1]);
            x.advance(20);
            Check.due("stint behind the drop", x.taxi(0, 8), d[2]);
        }
    }

    private static void restByRuleAsItIs() {
        Check.says("(by the rule as it is when the stop to which it leaves is done)");
        SharedTaxis x = twoZones("taxi 4 0 0 999;rule rest 29;");
        Check.book(x, 0, 1, 1, 0, 0);
        Check.book(x, 0, 1, 1, 50, 0);
        // It is free at 12, leaves at 40 and is done at 51.
        x.advance(50);
        x.setRule(6, 28);
        x.advance(1);
        Check.due("stint", x.taxi(0, 8), 10);
        x.undo();
        x.undo();
        x.advance(1);
        x.setRule(6, 28);
        Check.due("stint", x.taxi(0, 8), 20);
        x.advance(1);
        Check.due("stint", x.taxi(0, 8), 20);
    }

    private static void stintBeforeFirstWay() {
        Check.says("(Before its first way the stint is 0.)");
        SharedTaxis x = twoZones("taxi 4 0 0 999;rule stint 10;rule rest 99;");
        Check.due("stint", x.taxi(0, 8), 0);
        asked(x, true, 0, 1, 1, 0, 0);
        x.accept(0);
        Check.due("stint", x.taxi(0, 8), 0);
        x.advance(1);
        Check.due("stint", x.taxi(0, 8), 0);
        x.advance(11);
        Check.due("stint", x.taxi(0, 8), 10);
    }

    private static void seatsOnEachWay() {
        Check.says("on each way all persons aboard have seats");
        SharedTaxis x = Check.desk(TOWN);
        Check.book(x, 0, 2, 3, 0, 200);
        asked(x, false, 1, 2, 2, 0, 0);
        asked(x, true, 1, 2, 1, 0, 0);
        // The same while those three are aboard.
        x.advance(1);
        Check.due("persons aboard", x.taxi(0, 6), 3);
        asked(x, false, 1, 2, 2, 0, 0);
        asked(x, true, 1, 2, 1, 0, 0);
        x.accept(4);
        asked(x, false, 1, 2, 1, 0, 0);
    }

    private static void seatsOfAbsent() {
        Check.says("all persons aboard have seats; A party that is told to be absent does not come aboard");
        // It needs no seats, and it leaves none to others either.
        SharedTaxis x = Check.desk(TOWN);
        Check.book(x, 0, 2, 3, 0, 200);
        x.absent(0);
        asked(x, true, 0, 2, 4, 0, 200);
        x.accept(1);
        Check.dueText("format", Check.format(x, 0), "+1@0 +0@0 -1@2");
        asked(x, false, 1, 2, 1, 0, 200);
        SharedTaxis y = Check.desk(TOWN);
        Check.book(y, 0, 2, 3, 0, 200);
        Check.book(y, 1, 2, 1, 0, 200);
        asked(y, false, 1, 2, 1, 0, 200);
        y.absent(1);
        asked(y, true, 1, 2, 1, 0, 200);
        asked(y, false, 1, 2, 2, 0, 200);
    }

    private static void seatsOfSix() {
        Check.says("on each way all persons aboard have seats; seats (1 to 6)");
        SharedTaxis x = twoZones("taxi 6 0 0 999;");
        Check.book(x, 0, 1, 3, 0, 200);
        Check.book(x, 0, 1, 3, 0, 200);
        asked(x, false, 0, 1, 1, 0, 200);
        x.advance(2);
        Check.due("persons aboard", x.taxi(0, 6), 6);
        Check.due("parties aboard", x.taxi(0, 7), 2);
    }

    private static void seatsOnNoMinutes() {
        Check.says("on each way all persons aboard have seats; (0 for a zone and itself)");
        SharedTaxis x = Check.desk(TOWN);
        Check.book(x, 0, 1, 4, 0, 200);
        Check.book(x, 1, 2, 1, 0, 200);
        Check.dueText("format", Check.format(x, 0), "+0@0 -0@1 +1@1 -1@2");
        SharedTaxis y = Check.desk(TOWN);
        Check.book(y, 0, 1, 3, 0, 200);
        Check.book(y, 1, 2, 1, 0, 200);
        Check.dueText("format", Check.format(y, 0), "+0@0 +1@1 -0@1 -1@2");
    }

    private static void pickupAtLatest() {
        Check.says("each pickup is arrived at no later than the latest pickup of its ride");
        asked(twoZones("taxi 4 1 0 99;rule wait 10;"), true, 0, 1, 1, 0, 0);
        asked(twoZones("taxi 4 1 0 99;rule wait 9;"), false, 0, 1, 1, 0, 0);
        asked(twoZones("taxi 4 0 9 99;rule wait 8;"), false, 0, 1, 1, 0, 0);
        asked(twoZones("taxi 4 0 8 99;rule wait 8;"), true, 0, 1, 1, 0, 0);
        SharedTaxis x = Check.desk(TOWN + "rule wait 12;");
        Check.book(x, 0, 2, 1, 0, 200);
        Check.book(x, 1, 2, 1, 0, 200);
        x.setRule(1, 2);
        Check.due("arrival at the pickup", x.stop(0, 1, 4), 12);
        keeps(x, true);
        x.setRule(1, 3);
        keeps(x, false);
        // That of an absent party, too.
        x.absent(1);
        Check.due("arrival at the pickup", x.stop(0, 1, 4), 13);
        keeps(x, false);
    }

    private static void dropAtMost() {
        Check.says("the arrival at the drop is no later than the most minutes aboard behind the time when its pickup .. is done");
        asked(twoZones("taxi 4 0 0 99;"), true, 0, 1, 1, 0, 0);
        SharedTaxis x = Check.desk(TOWN);
        Check.book(x, 0, 2, 1, 0, 7);
        Check.book(x, 1, 2, 1, 0, 200);
        Check.dueText("format", Check.format(x, 0), "+0@0 +1@1 -0@2 -1@2");
        Check.due("most", x.ride(0, 8), 16);
        Check.dueText("times", Check.times(x, 0), "0/0/1 1/11/12 12/17/18 18/18/19");
        keeps(x, true);
        x.setRule(1, 2);
        keeps(x, false);
        // With 6 percent, 15 minutes, the second party cannot come along.
        SharedTaxis y = Check.desk(TOWN);
        Check.book(y, 0, 2, 1, 0, 6);
        asked(y, false, 1, 2, 1, 0, 200);
    }

    private static void dropOfOneAboard() {
        Check.says("behind the time when its pickup was .. done");
        SharedTaxis x = Check.desk(TOWN + "rule wait 60;");
        Check.book(x, 0, 2, 1, 0, 20);
        x.advance(1);
        Check.due("pickup done", x.ride(0, 10), 1);
        Check.due("most", x.ride(0, 8), 18);
        Check.book(x, 1, 2, 1, 0, 200);
        Check.dueText("format", Check.format(x, 0), "+1@1 -1@2 -0@2");
        Check.dueText("times", Check.times(x, 0), "1/11/12 12/17/18 18/18/19");
        keeps(x, true);
        // With 2 minutes for each stop it arrives at 20, a minute too late; with 1 for each it may be 19.
        x.setRule(1, 2);
        Check.due("arrival at the drop", x.stop(0, 2, 4), 20);
        keeps(x, false);
        SharedTaxis y = Check.desk(TOWN + "rule wait 60;");
        Check.book(y, 0, 2, 1, 0, 27);
        y.advance(1);
        Check.due("most", y.ride(0, 8), 19);
        Check.book(y, 1, 2, 1, 0, 200);
        y.setRule(1, 2);
        Check.due("arrival at the drop", y.stop(0, 2, 4), 20);
        keeps(y, true);
    }

    private static void stintExactly() {
        Check.says("the stint is at most 'stint' behind each way");
        asked(twoZones("taxi 4 0 0 99;rule stint 10;"), true, 0, 1, 1, 0, 0);
        asked(twoZones("taxi 4 0 0 99;rule stint 9;"), false, 0, 1, 1, 0, 0);
        asked(twoZones("taxi 4 1 0 99;rule stint 20;"), true, 0, 1, 1, 0, 0);
        asked(twoZones("taxi 4 1 0 99;rule stint 19;"), false, 0, 1, 1, 0, 0);
        // What it has driven so far counts.
        SharedTaxis x = twoZones("taxi 4 0 0 99;rule stint 19;");
        Check.book(x, 0, 1, 1, 0, 0);
        x.advance(12);
        asked(x, false, 1, 0, 1, 0, 0);
        x.setRule(5, 20);
        asked(x, true, 1, 0, 1, 0, 0);
    }

    private static void stintBehindEachWay() {
        Check.says("behind each way");
        SharedTaxis x = twoZones("taxi 4 0 0 999;rule rest 30;");
        Check.book(x, 0, 1, 1, 0, 0);
        Check.book(x, 1, 0, 1, 12, 0);
        Check.book(x, 0, 1, 1, 100, 0);
        Check.dueText("format", Check.format(x, 0), "+0@0 -0@1 +1@1 -1@0 +2@0 -2@1");
        // Behind the last way the stint is 10, but behind the one before the rest it is 20.
        x.setRule(5, 20);
        keeps(x, true);
        x.setRule(5, 19);
        keeps(x, false);
    }

    private static void endOfShift() {
        Check.says("the last stop is done no later than the end of the shift");
        asked(twoZones("taxi 4 0 0 12;"), true, 0, 1, 1, 0, 0);
        asked(twoZones("taxi 4 0 0 11;"), false, 0, 1, 1, 0, 0);
        asked(twoZones("taxi 4 0 0 28;rule dwell 9;"), true, 0, 1, 1, 0, 0);
        asked(twoZones("taxi 4 0 0 27;rule dwell 9;"), false, 0, 1, 1, 0, 0);
        SharedTaxis x = twoZones("taxi 4 0 0 999;");
        Check.book(x, 0, 1, 1, 0, 0);
        x.setEnd(0, 12);
        keeps(x, true);
        x.setEnd(0, 11);
        keeps(x, false);
    }

    private static void noWayBetween() {
        Check.says("There must be a way between all zones that come one behind the other");
        asked(Check.desk(TOWN), false, 0, 3, 1, 0, 200);
        asked(Check.desk(TOWN), false, 3, 0, 1, 0, 200);
        asked(Check.desk("zones 4;road 0 1 10;road 2 3 5;taxi 4 0 0 1000;"), false, 2, 3, 1, 0, 200);
        asked(Check.desk("zones 4;road 0 1 10;road 2 3 5;taxi 4 2 0 1000;"), true, 2, 3, 1, 0, 200);
    }

    private static void emptyRouteKeeps() {
        Check.says("A route without stops always keeps the limits");
        SharedTaxis x = twoZones("taxi 4 0 0 999;");
        keeps(x, true);
        Check.book(x, 0, 1, 1, 0, 0);
        x.advance(100);
        x.setEnd(0, 1);
        x.setRule(5, 1);
        Check.due("stint", x.taxi(0, 8), 10);
        keeps(x, true);
    }

    // ---- 3. Offers

    private static void dropBehindPickup() {
        Check.says("puts its pickup at one place of the list and its drop at a place behind it");
        SharedTaxis x = Check.desk(TOWN);
        Check.book(x, 0, 2, 1, 0, 200);
        Check.dueText("format", Check.format(x, 0), "+0@0 -0@2");
        // Directly behind it, and behind all the others.
        Check.book(x, 0, 1, 1, 0, 0);
        Check.dueText("format", Check.format(x, 0), "+0@0 +1@0 -1@1 -0@2");
        SharedTaxis y = Check.desk(TOWN);
        Check.book(y, 0, 1, 1, 0, 200);
        Check.book(y, 0, 2, 1, 0, 200);
        Check.dueText("format", Check.format(y, 0), "+1@0 +0@0 -0@1 -1@2");
        Check.book(y, 2, 1, 1, 60, 0);
        Check.dueText("format", Check.format(y, 0), "+1@0 +0@0 -0@1 -1@2 +2@2 -2@1");
    }

    private static void insertionKeepsLimits() {
        Check.says("so that the route keeps the limits afterwards");
        SharedTaxis x = twoZones("taxi 4 0 0 999;");
        Check.book(x, 0, 1, 1, 0, 0);
        x.ask(0, 1, 1, 0, 200);
        x.setEnd(0, 14);
        Check.due("extra", x.extra(1, 0), 0);
        // The route itself does not keep them, so none can be put into it.
        x.setEnd(0, 11);
        keeps(x, false);
        Check.due("extra", x.extra(1, 0), -1);
        Check.due("accept", x.accept(1), -3);
        asked(x, false, 0, 1, 1, 0, 200);
    }

    private static void insertionStops() {
        Check.says("with at most 12 stops");
        SharedTaxis x = fullRoute(200);
        asked(x, false, 0, 1, 1, 0, 200);
        x.absent(5);
        Check.due("stops", x.taxi(0, 5), 11);
        asked(x, false, 0, 1, 1, 0, 200);
        x.absent(4);
        Check.due("stops", x.taxi(0, 5), 10);
        asked(x, true, 0, 1, 1, 0, 200);
        x.accept(8);
        Check.due("stops", x.taxi(0, 5), 12);
        // An offer is of no use once the route is full.
        x.undo();
        x.ask(0, 1, 1, 0, 200);
        x.accept(8);
        Check.due("extra", x.extra(9, 0), -1);
        Check.due("accept", x.accept(9), -3);
    }

    private static void nothingAhead() {
        Check.says("nothing can be put ahead of a first stop for which the taxi has left");
        SharedTaxis x = twoZones("taxi 4 0 0 999;rule wait 60;");
        Check.book(x, 1, 0, 1, 12, 0);
        x.ask(0, 1, 1, 0, 200);
        x.advance(2);
        // It leaves at 2, so at 2 it has not left.
        Check.due("extra", x.extra(1, 0), 0);
        x.advance(1);
        Check.due("left", x.taxi(0, 9), 2);
        Check.due("extra", x.extra(1, 0), 10);
        x.accept(1);
        Check.dueText("format", Check.format(x, 0), "+0@1 -0@0 +1@0 -1@1");
        // Directly behind the stop for which it has left there is a place.
        SharedTaxis y = Check.desk(TOWN);
        Check.book(y, 0, 2, 1, 0, 200);
        Check.book(y, 0, 1, 1, 0, 200);
        y.advance(5);
        Check.dueText("format", Check.format(y, 0), "-1@1 -0@2");
        Check.book(y, 1, 2, 1, 0, 200);
        Check.dueText("format", Check.format(y, 0), "-1@1 +2@1 -2@2 -0@2");
    }

    private static void extraOfWays() {
        Check.says("Its extra is the sum of the minutes of all ways in the route behind it minus this sum before it");
        SharedTaxis x = Check.desk(TOWN + "rule wait 60;");
        x.ask(0, 2, 1, 0, 200);
        Check.due("extra", x.extra(0, 0), 15);
        x.accept(0);
        x.ask(1, 2, 1, 0, 200);
        Check.due("extra", x.extra(1, 0), 0);
        x.ask(2, 1, 1, 30, 200);
        Check.due("extra", x.extra(2, 0), 5);
        // The way on which the taxi is, that from zone 0 to zone 2, counts in both sums.
        x.advance(4);
        Check.due("extra", x.extra(1, 0), 10);
        Check.due("extra", x.extra(2, 0), 5);
    }

    private static void leastExtra() {
        Check.says("The best insertion of a taxi is that with the least extra");
        SharedTaxis x = Check.desk("zones 3;road 0 1 10;road 1 2 5;taxi 4 1 0 999;");
        Check.book(x, 1, 0, 1, 30, 0);
        // Ahead of the other ride it would cost 20 and come at 30; behind it, it costs 10 and comes at 42.
        x.ask(0, 1, 1, 30, 200);
        Check.dueText("offer", Check.offer(x, 1), "0 10 42 53 5");
    }

    private static void firstPlaceOfPickup() {
        Check.says("of several, with the earliest arrival at the pickup, then with the pickup at the first place");
        // Ahead of the other party at zone 0 it arrives at 0, behind it at 1.
        SharedTaxis x = Check.desk(TOWN);
        Check.book(x, 0, 2, 1, 0, 200);
        x.ask(0, 2, 1, 0, 200);
        Check.due("arrival", x.offer(1, 2), 0);
        x.accept(1);
        Check.dueText("format", Check.format(x, 0), "+1@0 +0@0 -1@2 -0@2");
        // Without a dwell time both arrivals are equal.
        SharedTaxis y = Check.desk(TOWN + "rule dwell 0;");
        Check.book(y, 0, 2, 1, 0, 200);
        Check.book(y, 0, 2, 1, 0, 200);
        Check.dueText("format", Check.format(y, 0), "+1@0 +0@0 -1@2 -0@2");
    }

    private static void firstPlaceOfDrop() {
        Check.says("then with the drop at the first place");
        SharedTaxis x = Check.desk(TOWN);
        Check.book(x, 0, 2, 1, 0, 200);
        Check.book(x, 1, 2, 1, 0, 200);
        Check.dueText("format", Check.format(x, 0), "+0@0 +1@1 -1@2 -0@2");
    }

    private static void offerOfLeastExtra() {
        Check.says("gets an offer by the taxi whose best insertion has the least extra");
        SharedTaxis x = twoZones("taxi 4 0 0 999;taxi 4 1 9 999;");
        x.ask(1, 0, 1, 0, 0);
        Check.dueText("offer", Check.offer(x, 0), "1 10 9 20 5");
        // The other one could be there at 10.
        SharedTaxis y = twoZones("taxi 4 0 0 999;taxi 4 1 12 999;");
        y.ask(1, 0, 1, 0, 0);
        Check.dueText("offer", Check.offer(y, 0), "1 10 12 23 5");
        SharedTaxis z = twoZones("taxi 4 1 0 999;taxi 4 0 12 999;");
        z.ask(0, 1, 1, 0, 0);
        Check.dueText("offer", Check.offer(z, 0), "1 10 12 23 5");
    }

    private static void offerOfEarliest() {
        Check.says("of several, the earliest arrival at the pickup");
        SharedTaxis x = twoZones("taxi 4 0 3 999;taxi 4 0 2 999;taxi 4 0 2 999;taxi 4 0 3 999;");
        x.ask(0, 1, 1, 0, 0);
        Check.dueText("offer", Check.offer(x, 0), "1 10 2 13 5");
        SharedTaxis y = twoZones("taxi 4 0 3 999;taxi 4 0 3 999;taxi 4 0 3 999;taxi 4 0 2 999;");
        y.ask(0, 1, 1, 0, 0);
        Check.dueText("offer", Check.offer(y, 0), "3 10 2 13 5");
    }

    private static void offerOfLowest() {
        Check.says("then the lowest taxi");
        // The ready time makes all arrivals equal.
        SharedTaxis x = twoZones("taxi 4 0 3 999;taxi 4 0 2 999;taxi 4 0 1 999;");
        x.ask(0, 1, 1, 3, 0);
        Check.dueText("offer", Check.offer(x, 0), "0 10 3 14 5");
        SharedTaxis y = twoZones("taxi 1 0 0 999;taxi 2 0 0 999;taxi 2 0 0 999;");
        y.ask(0, 1, 2, 0, 0);
        Check.dueText("offer", Check.offer(y, 0), "1 10 0 11 5");
    }

    private static void refused() {
        Check.says("If no taxi has an insertion, the ride is refused");
        asked(twoZones(""), false, 0, 1, 1, 0, 0);
        asked(twoZones("taxi 1 0 0 999;taxi 1 0 0 999;taxi 1 0 0 999;taxi 1 0 0 999;"), false, 0, 1, 2, 0, 0);
        asked(twoZones("taxi 1 0 0 999;taxi 1 0 0 999;taxi 1 0 0 999;taxi 2 0 0 999;"), true, 0, 1, 2, 0, 0);
    }

    private static void openTill() {
        Check.says("The offer is open till the present time is greater than the time of asking plus 'offer'");
        for (int offer : new int[] {0, 1, 60}) {
            SharedTaxis x = twoZones("taxi 4 0 0 999;rule wait 60;rule offer " + offer + ";");
            x.advance(3);
            x.ask(0, 1, 1, 0, 0);
            Check.due("the last time", x.offer(0, 4), 3 + offer);
            if (offer > 0) {
                x.advance(offer);
            }
            Check.due("state at the last time", x.ride(0, 0), 0);
            Check.due("open offers", x.size(5), 1);
            Check.due("extra", x.extra(0, 0), 10);
            x.advance(1);
            Check.due("state a minute later", x.ride(0, 0), 4);
            Check.due("open offers", x.size(5), 0);
            Check.due("extra", x.extra(0, 0), -1);
            Check.due("accept", x.accept(0), -2);
            x.undo();
            Check.due("accept at the last time", x.accept(0), 3 + offer);
        }
    }

    private static void openTillAsItIsThen() {
        Check.says("'offer' (as it is then)");
        SharedTaxis x = twoZones("taxi 4 0 0 999;");
        x.ask(0, 1, 1, 9, 0);
        x.setRule(2, 0);
        x.advance(5);
        Check.due("state", x.ride(0, 0), 0);
        x.setRule(2, 60);
        x.advance(1);
        Check.due("state", x.ride(0, 0), 4);
    }

    private static void acceptedAnew() {
        Check.says("puts the ride into the route of that taxi by its best insertion as it is at that time");
        SharedTaxis x = twoZones("taxi 1 0 0 999;taxi 1 1 0 999;");
        x.ask(0, 1, 1, 9, 0);
        Check.dueText("offer", Check.offer(x, 0), "0 10 9 20 5");
        Check.book(x, 0, 1, 1, 0, 0);
        // Now that taxi can be there at 22; the other one could come at 10 for as much.
        Check.due("extra", x.extra(0, 0), 20);
        Check.due("extra", x.extra(0, 1), 20);
        Check.dueText("offer", Check.offer(x, 0), "0 10 9 20 5");
        Check.due("accept", x.accept(0), 22);
        Check.due("taxi", x.ride(0, 9), 0);
    }
}
