/** Section 8 and promises 21 to 30 and 33 to 36: a test for each sentence that names a bound of operations. */
public final class OperationBoundsTests {
    private static final String TOWN = "zones 4;road 0 1 10;road 1 2 5;road 0 2 20;taxi 4 0 0 1000;"
        + "tariff 100 20;discount 2 25;";
    private static final int[] WILD = {Integer.MIN_VALUE, -1, 4, Integer.MAX_VALUE};

    public static void main(String[] args) {
        everySuccess();
        changesNothingButIsRecorded();
        noOperations();
        refusedChangesNothing();
        thrownChangesNothing();
        tenMostRecent();
        mostRecentFirst();
        undoRestoresAll();
        undoRestoresRide();
        askZones();
        askRanges();
        askSameZones();
        askTooMany();
        askOrder();
        acceptNotOpen();
        acceptNoInsertion();
        noSuchRide();
        declineNotOpen();
        declineCounts();
        cancelNotBooked();
        cancelLeft();
        cancelOrder();
        cancelCounts();
        absentNotBooked();
        absentAlready();
        absentCounts();
        advanceRange();
        advanceTooFar();
        advanceByThen();
        tipRange();
        tipTooMuch();
        tipOrder();
        setRateRange();
        setRateFromNowOn();
        setEndRange();
        setEndOrder();
        setEndKeepsRoute();
        setRuleRange();
        setRuleOrder();
        setRuleLeaves();
        undoCount();
        undoOfNone();
        undoBehindUndo();
        snapshotOfNone();
        snapshotReplaces();
        snapshotIsKept();
        snapshotRestoresAll();
        snapshotClearsUndo();
        Check.end();
    }

    private static SharedTaxis twoZones(String more) {
        return Check.desk("zones 2;road 0 1 10;" + more);
    }

    // ---- 8. Operations

    private static void everySuccess() {
        Check.says("ask, accept, decline, .. setEnd and setRule are operations. Every successful call is recorded");
        SharedTaxis x = Check.desk(TOWN);
        Check.Call[] operations = {() -> x.ask(0, 1, 1, 0, 0), () -> x.accept(0), () -> x.cancel(0),
            () -> x.ask(0, 1, 1, 0, 0), () -> x.decline(1), () -> x.ask(1, 2, 1, 30, 0), () -> x.accept(2),
            () -> x.absent(2), () -> x.advance(1), () -> x.tip(0, 1)};
        for (int i = 0; i < operations.length; i++) {
            operations[i].run();
            Check.due("undoCount", x.undoCount(), i + 1);
        }
        SharedTaxis y = Check.desk(TOWN);
        y.setRate(5);
        Check.due("undoCount", y.undoCount(), 1);
        y.setEnd(0, 7);
        Check.due("undoCount", y.undoCount(), 2);
        y.setRule(0, 7);
        Check.due("undoCount", y.undoCount(), 3);
    }

    private static void changesNothingButIsRecorded() {
        Check.says("Every successful call is recorded, even if it changes nothing");
        SharedTaxis x = Check.desk(TOWN);
        String before = Check.everything(x);
        Check.due("setRate", x.setRate(20), 20);
        Check.due("undoCount", x.undoCount(), 1);
        Check.due("setEnd", x.setEnd(0, 1000), 1000);
        Check.due("undoCount", x.undoCount(), 2);
        Check.due("setRule", x.setRule(0, 15), 15);
        Check.due("undoCount", x.undoCount(), 3);
        Check.due("setRule", x.setRule(7, 25), 25);
        Check.due("undoCount", x.undoCount(), 4);
        Check.dueText("everything", Check.everything(x), before);
        // A ride that is refused was asked for successfully.
        x.ask(0, 3, 1, 0, 0);
        Check.due("undoCount", x.undoCount(), 5);
    }

    private static void noOperations() {
        Check.says("ask, accept, decline, cancel, absent, advance, tip, setRate, setEnd and setRule are operations");
        SharedTaxis x = Check.eightRides();
        int undo = x.undoCount();
        x.format(0);
        x.saveSnapshot();
        Check.query(x, "many 1=1");
        Check.load(x, "?");
        x.extra(5, 0);
        x.fare(3);
        x.keeps(0);
        x.meanFare();
        Check.due("undoCount", x.undoCount(), undo);
    }

    private static void refusedChangesNothing() {
        Check.says("a call that returns a code .. changes nothing");
        SharedTaxis x = Check.eightRides();
        x.tip(0, 1999999999 - x.account(0, 0));
        for (int ride = 0; ride < 8; ride++) {
            int number = ride;
            if (ride != 5) {
                Check.changesNothing("accept(" + ride + ")", x, () -> Check.due("accept", x.accept(number), -2));
                Check.changesNothing("decline(" + ride + ")", x, () -> Check.due("decline", x.decline(number), -2));
            }
            if (ride != 4) {
                Check.changesNothing("cancel(" + ride + ")", x, () -> Check.due("cancel", x.cancel(number), -2));
                Check.changesNothing("absent(" + ride + ")", x, () -> Check.due("absent", x.absent(number), -2));
            }
        }
        Check.changesNothing("tip", x, () -> Check.due("tip", x.tip(0, 2), -5));
        x.setEnd(0, 20);
        Check.changesNothing("accept", x, () -> Check.due("accept", x.accept(5), -3));
        x.setEnd(0, 1000);
        x.absent(4);
        Check.changesNothing("absent", x, () -> Check.due("absent", x.absent(4), -2));
        x.advance(31);
        Check.changesNothing("cancel", x, () -> Check.due("cancel", x.cancel(4), -3));
        for (int i = 0; i < 16; i++) {
            x.ask(0, 1, 1, 0, 0);
        }
        Check.changesNothing("ask", x, () -> Check.due("ask", x.ask(0, 1, 1, 0, 0), -2));
        for (int i = 0; i < 6; i++) {
            x.advance(1440);
        }
        x.advance(1300);
        Check.changesNothing("advance", x, () -> Check.due("advance", x.advance(1440), -2));
    }

    private static void thrownChangesNothing() {
        Check.says("a call that .. throws an exception changes nothing");
        SharedTaxis x = Check.eightRides();
        Check.Call[] calls = {() -> x.ask(4, 0, 1, 0, 0), () -> x.ask(0, 1, 7, 0, 0), () -> x.ask(1, 1, 1, 0, 0),
            () -> x.accept(8), () -> x.decline(8), () -> x.cancel(8), () -> x.absent(8), () -> x.advance(0),
            () -> x.advance(1441), () -> x.tip(1, 1), () -> x.tip(0, 0), () -> x.setRate(1000), () -> x.setEnd(1, 9),
            () -> x.setEnd(0, 0), () -> x.setRule(10, 0), () -> x.setRule(0, 61), () -> x.format(1),
            () -> x.rides(7), () -> x.load(1), () -> x.query(1)};
        for (int i = 0; i < calls.length; i++) {
            Check.changesNothing("call " + i, x, calls[i]);
        }
    }

    private static void tenMostRecent() {
        Check.says("The 10 most recent operations can be undone");
        SharedTaxis x = Check.desk(TOWN);
        for (int i = 1; i <= 25; i++) {
            x.setRate(100 + i);
            Check.due("undoCount", x.undoCount(), Math.min(i, 10));
        }
        for (int i = 9; i >= 0; i--) {
            Check.due("undo", x.undo(), i);
        }
        Check.due("rate", x.size(8), 115);
        Check.due("undo", x.undo(), -1);
        Check.due("rate", x.size(8), 115);
        // Exactly ten: the first of them can be undone, too.
        SharedTaxis y = Check.desk(TOWN);
        for (int i = 1; i <= 10; i++) {
            y.setRate(100 + i);
        }
        for (int i = 9; i >= 0; i--) {
            Check.due("undo", y.undo(), i);
        }
        Check.due("rate", y.size(8), 20);
    }

    private static void mostRecentFirst() {
        Check.says("the most recent one first");
        SharedTaxis x = Check.desk(TOWN);
        x.setRate(1);
        x.setRule(0, 2);
        x.setEnd(0, 3);
        x.undo();
        Check.due("rate", x.size(8), 1);
        Check.due("rule", x.rule(0), 2);
        Check.due("end", x.taxi(0, 4), 1000);
        x.undo();
        Check.due("rule", x.rule(0), 15);
        Check.due("rate", x.size(8), 1);
        x.undo();
        Check.due("rate", x.size(8), 20);
    }

    private static void undoRestoresAll() {
        Check.says("Undoing restores everything that the operation changed");
        SharedTaxis x = Check.eightRides();
        Check.Call[] calls = {() -> x.ask(0, 1, 1, 0, 0), () -> x.accept(5), () -> x.decline(5), () -> x.cancel(4),
            () -> x.absent(4), () -> x.advance(5), () -> x.advance(6), () -> x.advance(1440), () -> x.tip(0, 7),
            () -> x.setRate(999), () -> x.setEnd(0, 50), () -> x.setRule(0, 60), () -> x.setRule(1, 9),
            () -> x.setRule(6, 1), () -> x.setRule(9, 90)};
        String before = Check.everything(x);
        for (int i = 0; i < calls.length; i++) {
            calls[i].run();
            Check.due("call " + i + " changes something", Check.everything(x).equals(before) ? 1 : 0, 0);
            Check.due("undo", x.undo(), 9);
            Check.dueText("everything behind undoing call " + i, Check.everything(x), before);
            x.setRate(20);
        }
    }

    private static void undoRestoresRide() {
        Check.says("Undoing restores everything; Saves a snapshot of everything that undoing restores");
        SharedTaxis x = twoZones("taxi 4 0 0 999;taxi 6 1 0 999;");
        x.ask(0, 1, 1, 0, 0);
        Check.dueText("offer", Check.offer(x, 0), "0 10 0 11 5");
        x.saveSnapshot();
        String before = Check.everything(x);
        // Another ride with the same number, from another zone, by the other taxi.
        x.undo();
        x.setRule(2, 7);
        x.ask(1, 0, 5, 3, 9);
        Check.dueText("offer", Check.offer(x, 0), "1 10 3 14 7");
        x.accept(0);
        x.absent(0);
        x.advance(9);
        x.restoreSnapshot();
        Check.dueText("everything", Check.everything(x), before);
    }

    // Promise 21
    private static void askZones() {
        Check.says("Throws NoSuchElementException if there is no such zone (checked first)");
        SharedTaxis x = Check.desk(TOWN);
        for (int zone : WILD) {
            Check.noSuch("ask", () -> x.ask(zone, 1, 1, 0, 0));
            Check.noSuch("ask", () -> x.ask(1, zone, 1, 0, 0));
            Check.noSuch("ask", () -> x.ask(zone, zone, 1, 0, 0));
            Check.noSuch("ask", () -> x.ask(zone, 1, 0, 0, 0));
            Check.noSuch("ask", () -> x.ask(1, zone, 1, 601, 0));
            Check.noSuch("ask", () -> x.ask(zone, 1, 1, 0, 201));
        }
        Check.due("ask", x.ask(3, 0, 1, 0, 0), 0);
        Check.due("ask", x.ask(0, 3, 1, 0, 0), 1);
    }

    private static void askRanges() {
        Check.says("Throws IllegalArgumentException if persons, delay or detour is out of range");
        SharedTaxis x = Check.desk(TOWN);
        for (int wrong : new int[] {Integer.MIN_VALUE, -1, Integer.MAX_VALUE}) {
            Check.illegal("ask", () -> x.ask(0, 1, wrong, 0, 0));
            Check.illegal("ask", () -> x.ask(0, 1, 1, wrong, 0));
            Check.illegal("ask", () -> x.ask(0, 1, 1, 0, wrong));
        }
        Check.illegal("ask", () -> x.ask(0, 1, 0, 0, 0));
        Check.illegal("ask", () -> x.ask(0, 1, 7, 0, 0));
        Check.illegal("ask", () -> x.ask(0, 1, 1, 601, 0));
        Check.illegal("ask", () -> x.ask(0, 1, 1, 0, 201));
        Check.due("ask", x.ask(0, 1, 1, 0, 0), 0);
        Check.due("ask", x.ask(0, 1, 6, 600, 200), 1);
        Check.due("ready", x.ride(1, 4), 600);
    }

    private static void askSameZones() {
        Check.says("or both zones are the same");
        SharedTaxis x = Check.desk(TOWN);
        for (int zone = 0; zone < 4; zone++) {
            int same = zone;
            Check.illegal("ask", () -> x.ask(same, same, 1, 0, 0));
        }
        Check.due("rides", x.size(3), 0);
    }

    private static void askTooMany() {
        Check.says("Returns the ride; -2 if there are 24 rides");
        SharedTaxis x = Check.desk(TOWN);
        for (int i = 0; i < 24; i++) {
            Check.due("ask", x.ask(0, 3, 1, 0, 0), i);
        }
        Check.due("ask", x.ask(0, 3, 1, 0, 0), -2);
        Check.due("undoCount", x.undoCount(), 10);
        x.undo();
        Check.due("rides", x.size(3), 23);
        Check.due("ask", x.ask(0, 3, 1, 0, 0), 23);
        Check.due("ask", x.ask(0, 3, 1, 0, 0), -2);
    }

    private static void askOrder() {
        Check.says("-2 if there are 24 rides; Throws NoSuchElementException ..; Throws IllegalArgumentException ..");
        SharedTaxis x = Check.desk(TOWN);
        for (int i = 0; i < 24; i++) {
            x.ask(0, 3, 1, 0, 0);
        }
        Check.noSuch("ask", () -> x.ask(0, 4, 1, 0, 0));
        Check.illegal("ask", () -> x.ask(0, 1, 7, 0, 0));
        Check.illegal("ask", () -> x.ask(0, 0, 1, 0, 0));
    }

    // Promise 22
    private static void acceptNotOpen() {
        Check.says("-2 if the offer is not open");
        SharedTaxis x = Check.eightRides();
        for (int ride = 0; ride < 8; ride++) {
            Check.due("accept(" + ride + ")", x.accept(ride), ride == 5 ? 76 : -2);
        }
        Check.due("accept again", x.accept(5), -2);
        x.undo();
        x.advance(6);
        Check.due("accept an expired one", x.accept(5), -2);
        // It is not open, and no insertion is there either.
        x.setEnd(0, 1);
        Check.due("accept an expired one", x.accept(5), -2);
    }

    private static void acceptNoInsertion() {
        Check.says("-3 if the taxi has no insertion");
        SharedTaxis x = Check.eightRides();
        x.setEnd(0, 87);
        Check.due("accept", x.accept(5), -3);
        Check.due("the offer stays", x.offer(5, 0), 0);
        x.setEnd(0, 88);
        Check.due("accept", x.accept(5), 76);
        // Another taxi has one, but the offer was made by this one.
        SharedTaxis y = twoZones("taxi 4 0 0 999;taxi 4 0 0 999;");
        y.ask(0, 1, 1, 0, 0);
        y.setEnd(0, 11);
        Check.due("extra", y.extra(0, 1), 10);
        Check.due("accept", y.accept(0), -3);
    }

    private static void noSuchRide() {
        Check.says("Throws NoSuchElementException if there is no such ride");
        SharedTaxis x = Check.eightRides();
        for (int ride : new int[] {Integer.MIN_VALUE, -1, 8, 23, 24, Integer.MAX_VALUE}) {
            Check.noSuch("accept", () -> x.accept(ride));
            Check.noSuch("decline", () -> x.decline(ride));
            Check.noSuch("cancel", () -> x.cancel(ride));
            Check.noSuch("absent", () -> x.absent(ride));
        }
        // A ride that was undone is not there any more.
        x.ask(0, 1, 1, 0, 0);
        x.undo();
        Check.noSuch("accept", () -> x.accept(8));
        Check.noSuch("decline", () -> x.decline(8));
    }

    // Promise 23
    private static void declineNotOpen() {
        Check.says("-2 if the offer is not open");
        SharedTaxis x = Check.eightRides();
        for (int ride = 0; ride < 8; ride++) {
            Check.due("decline(" + ride + ")", x.decline(ride), ride == 5 ? 0 : -2);
        }
        Check.due("decline again", x.decline(5), -2);
        x.undo();
        x.advance(5);
        Check.due("decline at the last time", x.decline(5), 0);
        x.undo();
        x.advance(1);
        Check.due("decline an expired one", x.decline(5), -2);
    }

    private static void declineCounts() {
        Check.says("Returns the number of offers that are open then");
        SharedTaxis x = Check.desk(TOWN);
        for (int i = 0; i < 24; i++) {
            x.ask(0, 1, 1, 0, 0);
        }
        for (int i = 0; i < 24; i++) {
            Check.due("decline", x.decline(i), 23 - i);
        }
    }

    // Promise 24
    private static void cancelNotBooked() {
        Check.says("-2 if the ride is not booked");
        SharedTaxis x = Check.eightRides();
        for (int ride = 0; ride < 8; ride++) {
            Check.due("cancel(" + ride + ")", x.cancel(ride), ride == 4 ? 1 : -2);
        }
        Check.due("cancel again", x.cancel(4), -2);
    }

    private static void cancelLeft() {
        Check.says("-3 if the taxi has left for its pickup");
        SharedTaxis x = twoZones("taxi 4 0 0 999;");
        Check.book(x, 1, 0, 1, 30, 0);
        x.advance(20);
        Check.due("cancel", x.cancel(0), 0);
        x.undo();
        x.advance(1);
        Check.due("cancel", x.cancel(0), -3);
        x.advance(9);
        Check.due("cancel one that it has arrived at", x.cancel(0), -3);
        // It has left, but for the pickup of another one.
        SharedTaxis y = twoZones("taxi 4 0 0 999;");
        Check.book(y, 1, 0, 1, 0, 0);
        Check.book(y, 0, 1, 1, 30, 0);
        y.advance(5);
        Check.due("cancel", y.cancel(0), -3);
        Check.due("cancel", y.cancel(1), 2);
        // It has left for the drop of another one, with this pickup behind it.
        SharedTaxis z = Check.desk(TOWN);
        Check.book(z, 0, 1, 1, 0, 0);
        Check.book(z, 1, 2, 1, 12, 0);
        z.advance(5);
        Check.due("left", z.taxi(0, 9), 1);
        Check.due("cancel", z.cancel(1), 1);
    }

    private static void cancelOrder() {
        Check.says("-2 if the ride is not booked; -3 if the taxi has left for its pickup (checked in this order)");
        SharedTaxis x = Check.desk(TOWN);
        Check.book(x, 0, 1, 1, 0, 0);
        x.advance(2);
        // It is aboard, and the taxi has left for its drop.
        Check.due("left", x.taxi(0, 9), 1);
        Check.due("cancel", x.cancel(0), -2);
    }

    private static void cancelCounts() {
        Check.says("Returns the number of stops that are left in the route");
        SharedTaxis x = Check.desk(TOWN);
        Check.book(x, 0, 2, 1, 0, 200);
        Check.book(x, 1, 2, 1, 0, 200);
        Check.book(x, 0, 2, 1, 0, 200);
        Check.due("cancel", x.cancel(1), 4);
        x.absent(0);
        Check.due("cancel an absent one", x.cancel(0), 2);
        Check.due("cancel", x.cancel(2), 0);
        Check.dueText("format", Check.format(x, 0), ".");
    }

    // Promise 25
    private static void absentNotBooked() {
        Check.says("-2 if the ride is not booked");
        SharedTaxis x = Check.eightRides();
        for (int ride = 0; ride < 8; ride++) {
            Check.due("absent(" + ride + ")", x.absent(ride), ride == 4 ? 2 : -2);
        }
    }

    private static void absentAlready() {
        Check.says("or told to be absent already");
        SharedTaxis x = Check.eightRides();
        Check.due("absent", x.absent(4), 2);
        Check.due("absent", x.absent(4), -2);
        x.undo();
        Check.due("absent", x.absent(4), 2);
    }

    private static void absentCounts() {
        Check.says("its drop is taken from the route. Returns the number of stops that are left in the route");
        SharedTaxis x = Check.desk(TOWN);
        Check.book(x, 0, 2, 1, 0, 200);
        Check.book(x, 1, 2, 1, 0, 200);
        Check.due("absent", x.absent(0), 3);
        Check.dueText("format", Check.format(x, 0), "+0@0 +1@1 -1@2");
        Check.due("absent", x.absent(1), 2);
        Check.dueText("format", Check.format(x, 0), "+0@0 +1@1");
        // It can be told while the taxi is on its way to the party, and while it waits there.
        SharedTaxis y = twoZones("taxi 4 0 0 999;rule dwell 9;rule patience 30;");
        Check.book(y, 1, 0, 1, 0, 0);
        y.advance(15);
        Check.due("absent", y.absent(0), 1);
        Check.dueText("times", Check.times(y, 0), "0/10/40");
    }

    // Promise 26
    private static void advanceRange() {
        Check.says("minutes: 1 to 1440; Throws IllegalArgumentException if minutes is out of range");
        SharedTaxis x = new SharedTaxis();
        for (int minutes : new int[] {Integer.MIN_VALUE, -1, 0, 1441, 9999, 10000, Integer.MAX_VALUE}) {
            Check.illegal("advance", () -> x.advance(minutes));
        }
        Check.due("now", x.size(4), 0);
        Check.due("advance", x.advance(1), 0);
        Check.due("now", x.size(4), 1);
        Check.due("advance", x.advance(1440), 0);
        Check.due("now", x.size(4), 1441);
    }

    private static void advanceTooFar() {
        Check.says("-2 if the present time would exceed 9999");
        SharedTaxis x = new SharedTaxis();
        for (int i = 0; i < 6; i++) {
            x.advance(1440);
        }
        Check.due("now", x.size(4), 8640);
        Check.due("advance", x.advance(1360), -2);
        Check.due("now", x.size(4), 8640);
        Check.due("advance", x.advance(1359), 0);
        Check.due("now", x.size(4), 9999);
        Check.due("advance", x.advance(1), -2);
        Check.due("advance", x.advance(1440), -2);
        Check.illegal("advance", () -> x.advance(0));
        Check.illegal("advance", () -> x.advance(1441));
        Check.due("undoCount", x.undoCount(), 7);
        // The latest times that there are.
        x.ask(0, 1, 1, 600, 0);
        Check.due("ready", x.ride(0, 4), 10599);
        Check.due("latest", x.ride(0, 5), 10614);
    }

    private static void advanceByThen() {
        Check.says("all stops that are done by then happen; Returns the number of stops that were done");
        SharedTaxis x = Check.desk(TOWN);
        Check.book(x, 0, 2, 1, 0, 100);
        Check.book(x, 1, 2, 2, 0, 100);
        int[] done = {1, 12, 18, 19};
        for (int now = 1, next = 0; now <= 20; now++) {
            boolean happens = next < done.length && done[next] == now;
            Check.due("advance to " + now, x.advance(1), happens ? 1 : 0);
            next += happens ? 1 : 0;
        }
        SharedTaxis y = Check.desk(TOWN);
        Check.book(y, 0, 2, 1, 0, 100);
        Check.book(y, 1, 2, 2, 0, 100);
        Check.due("advance", y.advance(18), 3);
        y.undo();
        Check.due("advance", y.advance(17), 2);
        y.undo();
        Check.due("advance", y.advance(1440), 4);
    }

    // Promise 27
    private static void tipRange() {
        Check.says("cents: 1 to 2000000000; Throws IllegalArgumentException if cents is out of range");
        SharedTaxis x = twoZones("taxi 1 0 0 9;taxi 1 0 0 9;");
        for (int cents : new int[] {Integer.MIN_VALUE, -1, 0, 2000000001, Integer.MAX_VALUE}) {
            Check.illegal("tip", () -> x.tip(0, cents));
        }
        Check.due("tip", x.tip(0, 1), 1);
        Check.due("tip", x.tip(1, 2000000000), 2000000000);
        Check.dueText("account", Check.account(x, 0), "1 1 0 0 0 0");
        Check.dueText("account", Check.account(x, 1), "2000000000 2000000000 0 0 0 0");
    }

    private static void tipTooMuch() {
        Check.says("-5 if they would exceed 2000000000");
        SharedTaxis x = twoZones("taxi 1 0 0 999;tariff 7 0;");
        Check.due("tip", x.tip(0, 1999999999), 1999999999);
        Check.due("tip", x.tip(0, 2), -5);
        Check.due("tip", x.tip(0, 2000000000), -5);
        Check.due("tip", x.tip(0, 1), 2000000000);
        Check.due("tip", x.tip(0, 1), -5);
        Check.due("tip", x.tip(0, 2000000000), -5);
        // Fares are no tips: they go beyond, and then there can be no tip at all.
        Check.book(x, 0, 1, 1, 0, 0);
        x.advance(50);
        Check.due("takings", x.account(0, 0), 2000000007);
        Check.due("tip", x.tip(0, 1), -5);
        Check.due("tip", x.tip(0, 2000000000), -5);
        // Fares count among the takings.
        SharedTaxis y = twoZones("taxi 1 0 0 999;tariff 7 0;");
        Check.book(y, 0, 1, 1, 0, 0);
        y.advance(50);
        Check.due("tip", y.tip(0, 1999999994), -5);
        Check.due("tip", y.tip(0, 1999999993), 2000000000);
    }

    private static void tipOrder() {
        Check.says("Throws NoSuchElementException if there is no such taxi (checked first)");
        SharedTaxis x = twoZones("taxi 1 0 0 9;taxi 1 0 0 9;");
        for (int taxi : new int[] {Integer.MIN_VALUE, -1, 2, 4, Integer.MAX_VALUE}) {
            Check.noSuch("tip", () -> x.tip(taxi, 1));
            Check.noSuch("tip", () -> x.tip(taxi, 0));
            Check.noSuch("tip", () -> x.tip(taxi, 2000000001));
        }
        x.tip(0, 2000000000);
        Check.illegal("tip behind the codes", () -> x.tip(0, 0));
    }

    // Promise 28
    private static void setRateRange() {
        Check.says("Throws IllegalArgumentException if rate is not 0 to 999");
        SharedTaxis x = Check.desk(TOWN);
        for (int rate : new int[] {Integer.MIN_VALUE, -1, 1000, Integer.MAX_VALUE}) {
            Check.illegal("setRate", () -> x.setRate(rate));
        }
        Check.due("setRate", x.setRate(0), 20);
        Check.due("setRate", x.setRate(999), 0);
        Check.due("rate", x.size(8), 999);
    }

    private static void setRateFromNowOn() {
        Check.says("sets the rate, for all ways whose stops are done from now on");
        SharedTaxis x = Check.desk(TOWN);
        Check.book(x, 0, 1, 1, 0, 0);
        x.advance(11);
        // The way is driven already, but its stop is not done.
        x.setRate(1);
        Check.due("fare", x.fare(0), 110);
        x.advance(1);
        x.setRate(999);
        Check.due("paid", x.ride(0, 12), 110);
    }

    // Promise 29
    private static void setEndRange() {
        Check.says("Throws IllegalArgumentException if end is not greater than the begin of the shift, or greater than 2879");
        SharedTaxis x = twoZones("taxi 1 0 0 99;taxi 1 1 50 999;taxi 1 0 2878 2879;");
        for (int end : new int[] {Integer.MIN_VALUE, -1, 0, 2880, Integer.MAX_VALUE}) {
            Check.illegal("setEnd", () -> x.setEnd(0, end));
        }
        Check.illegal("setEnd", () -> x.setEnd(1, 49));
        Check.illegal("setEnd", () -> x.setEnd(1, 50));
        Check.illegal("setEnd", () -> x.setEnd(2, 2878));
        Check.due("setEnd", x.setEnd(0, 1), 99);
        Check.due("setEnd", x.setEnd(0, 2879), 1);
        Check.due("setEnd", x.setEnd(1, 51), 999);
        Check.due("setEnd", x.setEnd(2, 2879), 2879);
        Check.due("end", x.taxi(0, 4), 2879);
        Check.due("end", x.taxi(1, 4), 51);
    }

    private static void setEndOrder() {
        Check.says("Throws NoSuchElementException if there is no such taxi (checked first)");
        SharedTaxis x = twoZones("taxi 1 0 0 99;");
        for (int taxi : new int[] {Integer.MIN_VALUE, -1, 1, 4, Integer.MAX_VALUE}) {
            Check.noSuch("setEnd", () -> x.setEnd(taxi, 9));
            Check.noSuch("setEnd", () -> x.setEnd(taxi, 0));
            Check.noSuch("setEnd", () -> x.setEnd(taxi, 2880));
        }
    }

    private static void setEndKeepsRoute() {
        Check.says("sets the end of the shift of a taxi (its route stays)");
        SharedTaxis x = twoZones("taxi 1 0 0 999;");
        Check.book(x, 0, 1, 1, 0, 0);
        Check.due("setEnd", x.setEnd(0, 1), 999);
        Check.dueText("format", Check.format(x, 0), "+0@0 -0@1");
        Check.due("advance", x.advance(12), 2);
        Check.due("state", x.ride(0, 0), 3);
    }

    // Promise 30
    private static final int[] FIRST = {15, 1, 5, 3, 0, 240, 30, 0, 0, 0};
    private static final int[] LEAST = {0, 0, 0, 0, 0, 1, 1, 0, 0, 0};
    private static final int[] MOST = {60, 9, 60, 30, 9999, 999, 99, 90, 90, 90};

    private static void setRuleRange() {
        Check.says("Throws IllegalArgumentException if value is out of the range of this rule");
        for (int rule = 0; rule <= 9; rule++) {
            SharedTaxis x = new SharedTaxis();
            int one = rule;
            for (int value : new int[] {Integer.MIN_VALUE, LEAST[rule] - 1, MOST[rule] + 1, Integer.MAX_VALUE}) {
                Check.illegal("setRule", () -> x.setRule(one, value));
            }
            Check.due("setRule", x.setRule(rule, LEAST[rule]), FIRST[rule]);
            Check.due("setRule", x.setRule(rule, MOST[rule]), LEAST[rule]);
            Check.due("rule", x.rule(rule), MOST[rule]);
        }
    }

    private static void setRuleOrder() {
        Check.says("Throws NoSuchElementException if rule is out of range (checked first)");
        SharedTaxis x = new SharedTaxis();
        for (int rule : new int[] {Integer.MIN_VALUE, -1, 10, Integer.MAX_VALUE}) {
            Check.noSuch("setRule", () -> x.setRule(rule, 1));
            Check.noSuch("setRule", () -> x.setRule(rule, -1));
            Check.noSuch("setRule", () -> x.setRule(rule, 10000));
        }
    }

    private static void setRuleLeaves() {
        Check.says("open offers, ready times and latest pickups stay");
        SharedTaxis x = Check.eightRides();
        String offer = Check.offer(x, 5);
        String ride = Check.ride(x, 4);
        for (int rule = 0; rule <= 9; rule++) {
            x.setRule(rule, LEAST[rule]);
            Check.dueText("offer", Check.offer(x, 5), offer);
            Check.dueText("ride", Check.ride(x, 4), ride);
            x.setRule(rule, MOST[rule]);
            Check.dueText("offer", Check.offer(x, 5), offer);
            Check.dueText("ride", Check.ride(x, 4), ride);
        }
    }

    // Promise 33
    private static void undoCount() {
        Check.says("Returns the number of operations that can be undone");
        SharedTaxis x = new SharedTaxis();
        Check.due("undoCount", x.undoCount(), 0);
        for (int i = 1; i <= 11; i++) {
            x.setRate(i);
            Check.due("undoCount", x.undoCount(), Math.min(i, 10));
        }
        x.undo();
        Check.due("undoCount", x.undoCount(), 9);
        x.setRate(50);
        Check.due("undoCount", x.undoCount(), 10);
    }

    // Promise 34
    private static void undoOfNone() {
        Check.says("NONE if there was nothing to undo");
        SharedTaxis x = Check.desk(TOWN);
        Check.due("undo", x.undo(), -1);
        x.setRate(5);
        Check.due("undo", x.undo(), 0);
        String before = Check.everything(x);
        Check.due("undo", x.undo(), -1);
        Check.due("undo", x.undo(), -1);
        Check.due("undoCount", x.undoCount(), 0);
        Check.dueText("everything", Check.everything(x), before);
    }

    private static void undoBehindUndo() {
        Check.says("Undoes the most recent operation. Returns the number of operations that can still be undone");
        SharedTaxis x = Check.desk(TOWN);
        // Wherever the history begins to be written over, undone operations are gone from it.
        for (int steps = 1; steps <= 12; steps++) {
            for (int i = 0; i < steps; i++) {
                x.setRate(100 * (i % 2) + steps);
            }
            int left = Math.min(10, x.undoCount());
            x.setRate(7);
            x.setRate(8);
            Check.due("undo", x.undo(), Math.min(left + 1, 9));
            Check.due("rate", x.size(8), 7);
            Check.due("undo", x.undo(), Math.min(left, 8));
            Check.due("rate", x.size(8), 100 * ((steps - 1) % 2) + steps);
        }
    }

    // Promises 35 and 36
    private static void snapshotOfNone() {
        Check.says("Returns true; false if there is no snapshot (nothing changes)");
        SharedTaxis x = Check.eightRides();
        String before = Check.everything(x);
        Check.due("restoreSnapshot", x.restoreSnapshot() ? 1 : 0, 0);
        Check.dueText("everything", Check.everything(x), before);
        Check.due("undoCount", x.undoCount(), 10);
        x.saveSnapshot();
        Check.due("restoreSnapshot", x.restoreSnapshot() ? 1 : 0, 1);
    }

    private static void snapshotReplaces() {
        Check.says("It replaces an earlier snapshot");
        SharedTaxis x = Check.desk(TOWN);
        x.setRate(1);
        x.saveSnapshot();
        x.setRate(2);
        x.saveSnapshot();
        x.setRate(3);
        x.restoreSnapshot();
        Check.due("rate", x.size(8), 2);
    }

    private static void snapshotIsKept() {
        Check.says("The snapshot is kept");
        SharedTaxis x = Check.eightRides();
        x.saveSnapshot();
        String before = Check.everything(x);
        for (int i = 0; i < 3; i++) {
            x.accept(5);
            x.advance(100 + i);
            Check.due("restoreSnapshot", x.restoreSnapshot() ? 1 : 0, 1);
            Check.dueText("everything", Check.everything(x), before);
        }
        // Undoing what came behind it, and what came ahead of it, leaves it as it is.
        x.setRate(1);
        x.undo();
        Check.load(x, "?");
        Check.due("restoreSnapshot", x.restoreSnapshot() ? 1 : 0, 1);
        Check.dueText("everything", Check.everything(x), before);
    }

    private static void snapshotRestoresAll() {
        Check.says("Saves a snapshot of everything that undoing restores");
        SharedTaxis x = Check.eightRides();
        x.tip(0, 5);
        x.setRule(9, 33);
        String before = Check.everything(x);
        x.saveSnapshot();
        Check.dueText("everything behind saving", Check.everything(x), before);
        Check.Call[] calls = {() -> x.ask(0, 1, 1, 0, 0), () -> x.accept(5), () -> x.decline(5), () -> x.cancel(4),
            () -> x.absent(4), () -> x.advance(6), () -> x.advance(1440), () -> x.tip(0, 7), () -> x.setRate(999),
            () -> x.setEnd(0, 50), () -> x.setRule(1, 9), () -> x.undo()};
        for (int i = 0; i < calls.length; i++) {
            calls[i].run();
            x.restoreSnapshot();
            Check.dueText("everything behind call " + i, Check.everything(x), before);
        }
    }

    private static void snapshotClearsUndo() {
        Check.says("Restores the snapshot and clears the undo history");
        SharedTaxis x = Check.eightRides();
        x.saveSnapshot();
        Check.due("saving it clears nothing", x.undoCount(), 10);
        x.setRate(5);
        x.restoreSnapshot();
        Check.due("undoCount", x.undoCount(), 0);
        Check.due("undo", x.undo(), -1);
        Check.due("rate", x.size(8), 20);
        for (int i = 1; i <= 12; i++) {
            x.setRate(i);
        }
        for (int i = 9; i >= 0; i--) {
            Check.due("undo", x.undo(), i);
        }
        Check.due("rate", x.size(8), 2);
    }
}
