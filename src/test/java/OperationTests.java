/** Promises 21 to 30: the operations, with the answers worked out by hand from the document. */
public final class OperationTests {
    private static final String TOWN = "zones 4;road 0 1 10;road 1 2 5;road 0 2 20;taxi 4 0 0 1000;"
        + "tariff 100 20;discount 2 25;";

    public static void main(String[] args) {
        askArguments();
        askCount();
        askRefused();
        askLatest();
        askStint();
        askDetour();
        askSeats();
        askStops();
        askTaxi();
        askPlace();
        askBehindLeft();
        accept();
        acceptAnew();
        decline();
        cancel();
        absent();
        absentInTime();
        advance();
        advanceLimits();
        advanceExpires();
        advanceLeaving();
        advanceRest();
        advanceLateRules();
        advanceFares();
        tip();
        setRate();
        setEnd();
        setRule();
        Check.end();
    }

    private static SharedTaxis twoZones(String more) {
        return Check.desk("zones 2;road 0 1 10;" + more);
    }

    /** The state that a ride gets which is asked for now. */
    private static void asked(SharedTaxis x, int state, int from, int to, int persons, int delay, int detour) {
        int ride = x.ask(from, to, persons, delay, detour);
        Check.due("state of ride " + ride, x.ride(ride, 0), state);
    }

    // Promise 21
    private static void askArguments() {
        SharedTaxis x = Check.desk(TOWN);
        Check.noSuch("ask", () -> x.ask(-1, 1, 1, 0, 0));
        Check.noSuch("ask", () -> x.ask(0, -1, 1, 0, 0));
        Check.noSuch("ask", () -> x.ask(4, 1, 1, 0, 0));
        Check.noSuch("ask", () -> x.ask(0, 4, 1, 0, 0));
        Check.noSuch("ask", () -> x.ask(4, 4, 0, -1, 201));
        Check.noSuch("ask", () -> x.ask(0, 4, 7, 601, -1));
        Check.illegal("ask", () -> x.ask(0, 1, 0, 0, 0));
        Check.illegal("ask", () -> x.ask(0, 1, 7, 0, 0));
        Check.illegal("ask", () -> x.ask(0, 1, 1, -1, 0));
        Check.illegal("ask", () -> x.ask(0, 1, 1, 601, 0));
        Check.illegal("ask", () -> x.ask(0, 1, 1, 0, -1));
        Check.illegal("ask", () -> x.ask(0, 1, 1, 0, 201));
        Check.illegal("ask", () -> x.ask(1, 1, 1, 0, 0));
        Check.due("size", x.size(3), 0);
        Check.due("undoCount", x.undoCount(), 0);
        Check.due("ask", x.ask(0, 1, 1, 0, 0), 0);
        Check.due("ask", x.ask(1, 0, 6, 600, 200), 1);
        Check.due("undoCount", x.undoCount(), 2);
    }

    private static void askCount() {
        SharedTaxis x = new SharedTaxis();
        for (int i = 0; i < 24; i++) {
            Check.due("ask", x.ask(0, 1, 1, 0, 0), i);
            Check.due("state", x.ride(i, 0), 4);
        }
        String before = Check.everything(x);
        x.undo();
        Check.due("ask", x.ask(0, 1, 1, 0, 0), 23);
        Check.due("undoCount", x.undoCount(), 10);
        Check.due("ask", x.ask(0, 1, 1, 0, 0), -2);
        Check.noSuch("ask", () -> x.ask(0, 2, 1, 0, 0));
        Check.illegal("ask", () -> x.ask(0, 0, 1, 0, 0));
        Check.dueText("everything", Check.everything(x), before);
        Check.due("undo", x.undo(), 9);
        Check.due("size", x.size(3), 23);
    }

    private static void askRefused() {
        SharedTaxis x = Check.desk(TOWN);
        asked(x, 4, 0, 3, 1, 0, 200);
        asked(x, 4, 3, 0, 1, 0, 200);
        // There is a way for the ride, but none to it.
        asked(Check.desk("zones 4;road 0 1 10;road 2 3 5;taxi 4 0 0 1000;"), 4, 2, 3, 1, 0, 200);
        asked(x, 4, 0, 1, 5, 0, 0);
        asked(x, 0, 0, 1, 4, 0, 0);
        // The last stop is done at 12.
        asked(twoZones("taxi 4 0 0 12;"), 0, 0, 1, 1, 0, 0);
        asked(twoZones("taxi 4 0 0 11;"), 4, 0, 1, 1, 0, 0);
        asked(twoZones("taxi 4 0 0 10;rule dwell 0;"), 0, 0, 1, 1, 0, 0);
        asked(twoZones("taxi 4 0 5 17;"), 0, 0, 1, 1, 0, 0);
        asked(twoZones("taxi 4 0 5 16;"), 4, 0, 1, 1, 0, 0);
        asked(twoZones(""), 4, 0, 1, 1, 0, 0);
    }

    private static void askLatest() {
        asked(twoZones("taxi 4 1 0 99;rule wait 10;"), 0, 0, 1, 1, 0, 0);
        asked(twoZones("taxi 4 1 0 99;rule wait 9;"), 4, 0, 1, 1, 0, 0);
        asked(twoZones("taxi 4 1 0 99;rule wait 9;"), 0, 0, 1, 1, 1, 0);
        asked(twoZones("taxi 4 0 5 99;rule wait 4;"), 4, 0, 1, 1, 0, 0);
        SharedTaxis x = twoZones("taxi 4 1 0 99;rule wait 9;");
        x.setRule(0, 10);
        asked(x, 0, 0, 1, 1, 0, 0);
        x.setRule(0, 9);
        Check.due("latest", x.ride(0, 5), 10);
        Check.due("accept", x.accept(0), 10);
    }

    private static void askStint() {
        asked(twoZones("taxi 4 0 0 99;rule stint 10;"), 0, 0, 1, 1, 0, 0);
        asked(twoZones("taxi 4 0 0 99;rule stint 9;"), 4, 0, 1, 1, 0, 0);
        asked(twoZones("taxi 4 1 0 99;rule stint 19;"), 4, 0, 1, 1, 0, 0);
        asked(twoZones("taxi 4 1 0 99;rule stint 20;"), 0, 0, 1, 1, 0, 0);
        // It is free at 12, and rests if it leaves at 17 or later.
        SharedTaxis x = twoZones("taxi 4 0 0 99;rule stint 10;rule rest 5;");
        Check.book(x, 0, 1, 1, 0, 0);
        asked(x, 4, 1, 0, 1, 16, 0);
        asked(x, 0, 1, 0, 1, 17, 0);
        Check.dueText("offer", Check.offer(x, 2), "0 10 17 28 5");
        // It rests, too, while it has nothing to do.
        SharedTaxis y = twoZones("taxi 4 0 0 99;rule stint 10;rule rest 5;");
        Check.book(y, 0, 1, 1, 0, 0);
        y.advance(16);
        asked(y, 4, 1, 0, 1, 0, 0);
        y.advance(1);
        asked(y, 0, 1, 0, 1, 0, 0);
    }

    /** Both parties together let the first one out behind 16 minutes, or the second one behind 6. */
    private static void askDetour() {
        int[][] detours = {{7, 20, 0}, {6, 20, 4}, {7, 19, 4}, {13, 0, 4}, {14, 0, 0}, {6, 200, 4}};
        for (int[] d : detours) {
            SharedTaxis x = Check.desk(TOWN);
            Check.book(x, 0, 2, 1, 0, d[0]);
            asked(x, d[2], 1, 2, 1, 0, d[1]);
        }
        // The second one is let out first: 17 minutes for the first one.
        SharedTaxis x = Check.desk(TOWN);
        Check.book(x, 0, 2, 1, 0, 14);
        Check.due("most", x.ride(0, 8), 17);
        asked(x, 0, 1, 2, 1, 0, 0);
        Check.dueText("offer", Check.offer(x, 1), "0 0 11 17 5");
    }

    private static void askSeats() {
        SharedTaxis x = Check.desk(TOWN);
        Check.book(x, 0, 2, 3, 0, 200);
        asked(x, 4, 1, 2, 2, 0, 200);
        asked(x, 0, 1, 2, 1, 0, 200);
        x.accept(2);
        Check.dueText("format", Check.format(x, 0), "+0@0 +2@1 -2@2 -0@2");
        // On a way of no minutes all have seats, too: it lets out first.
        SharedTaxis y = Check.desk(TOWN);
        Check.book(y, 0, 1, 3, 0, 200);
        asked(y, 0, 1, 2, 2, 0, 200);
        y.accept(1);
        Check.dueText("format", Check.format(y, 0), "+0@0 -0@1 +1@1 -1@2");
        // An absent party needs no seats.
        SharedTaxis z = Check.desk(TOWN);
        Check.book(z, 0, 2, 3, 0, 200);
        z.absent(0);
        asked(z, 0, 1, 2, 4, 0, 0);
    }

    private static void askStops() {
        SharedTaxis x = Check.desk("zones 2;road 0 1 1;taxi 6 0 0 999;rule wait 60;rule dwell 0;"
            + "rule patience 0;");
        for (int i = 0; i < 6; i++) {
            Check.due("accept", x.accept(x.ask(0, 1, 1, 0, 200)), 0);
        }
        Check.due("stops", x.size(6), 12);
        asked(x, 4, 0, 1, 1, 0, 200);
        x.absent(0);
        Check.due("stops", x.size(6), 11);
        asked(x, 4, 0, 1, 1, 0, 200);
        x.cancel(0);
        Check.due("stops", x.size(6), 10);
        asked(x, 0, 0, 1, 1, 0, 200);
        Check.due("accept", x.accept(8), 0);
        Check.due("stops", x.size(6), 12);
    }

    private static void askTaxi() {
        // The least extra.
        SharedTaxis x = twoZones("taxi 4 0 0 999;taxi 4 1 0 999;");
        x.ask(1, 0, 1, 0, 0);
        Check.dueText("offer", Check.offer(x, 0), "1 10 0 11 5");
        // The earliest arrival: the second one can come at once.
        SharedTaxis y = twoZones("taxi 4 0 8 999;taxi 4 0 3 999;taxi 4 0 2 999;taxi 4 0 2 999;");
        y.ask(0, 1, 1, 0, 0);
        Check.dueText("offer", Check.offer(y, 0), "2 10 2 13 5");
        // The lowest taxi; the ready time makes the arrivals equal.
        SharedTaxis z = twoZones("taxi 4 0 8 999;taxi 4 0 3 999;");
        z.ask(0, 1, 1, 9, 0);
        Check.dueText("offer", Check.offer(z, 0), "0 10 9 20 5");
        // The only one with an insertion.
        SharedTaxis w = twoZones("taxi 1 0 0 999;taxi 3 1 0 999;taxi 2 0 0 999;");
        w.ask(0, 1, 3, 0, 0);
        Check.dueText("offer", Check.offer(w, 0), "1 20 10 21 5");
        w.advance(4);
        w.setRule(2, 0);
        w.ask(0, 1, 1, 0, 0);
        Check.dueText("offer", Check.offer(w, 1), "0 10 4 15 4");
    }

    private static void askPlace() {
        // Of equal extras the earliest arrival at the pickup: ahead of the other party at the same zone.
        SharedTaxis x = Check.desk(TOWN);
        Check.book(x, 0, 2, 1, 0, 200);
        Check.book(x, 0, 2, 1, 0, 200);
        Check.dueText("format", Check.format(x, 0), "+1@0 +0@0 -1@2 -0@2");
        // Without a dwell time arrivals are equal, and the first places count.
        SharedTaxis y = Check.desk(TOWN + "rule dwell 0;");
        Check.book(y, 0, 2, 1, 0, 200);
        Check.book(y, 1, 2, 1, 0, 200);
        Check.book(y, 1, 2, 1, 0, 200);
        Check.dueText("format", Check.format(y, 0), "+0@0 +2@1 +1@1 -2@2 -1@2 -0@2");
        // The least extra, though the arrival is later: behind the other ride it costs 5, ahead of it 15.
        SharedTaxis z = Check.desk("zones 3;road 0 1 10;road 1 2 5;taxi 4 1 0 999;");
        Check.book(z, 1, 0, 1, 30, 0);
        Check.book(z, 0, 1, 1, 30, 200);
        Check.dueText("format", Check.format(z, 0), "+0@1 -0@0 +1@0 -1@1");
        Check.due("routeMinutes", z.routeMinutes(0), 20);
    }

    private static void askBehindLeft() {
        // It could take the second party at zone 0 along for nothing, but it has left zone 0 already.
        SharedTaxis x = Check.desk("zones 2;road 0 1 10;taxi 4 0 0 999;rule wait 60;");
        Check.book(x, 1, 0, 1, 0, 0);
        x.ask(0, 1, 1, 0, 200);
        Check.due("extra", x.extra(1, 0), 0);
        x.advance(1);
        Check.due("extra", x.extra(1, 0), 10);
        x.ask(0, 1, 1, 0, 200);
        Check.due("arrival", x.offer(2, 2), 22);
        Check.due("accept", x.accept(2), 22);
        Check.dueText("format", Check.format(x, 0), "+0@1 -0@0 +2@0 -2@1");
        // Behind the stop for which it has left there is a place at once.
        SharedTaxis z = Check.desk("zones 3;road 0 1 10;road 1 2 5;taxi 4 0 0 999;");
        Check.book(z, 0, 2, 1, 0, 200);
        Check.book(z, 0, 1, 1, 0, 200);
        z.advance(5);
        Check.dueText("format", Check.format(z, 0), "-1@1 -0@2");
        Check.book(z, 1, 2, 1, 0, 200);
        Check.dueText("format", Check.format(z, 0), "-1@1 +2@1 -2@2 -0@2");
        // If it has not left yet, it can be sent elsewhere.
        SharedTaxis y = Check.desk("zones 2;road 0 1 10;taxi 4 0 0 999;rule wait 60;");
        Check.book(y, 1, 0, 1, 12, 0);
        y.advance(2);
        y.ask(0, 1, 1, 0, 200);
        Check.dueText("offer", Check.offer(y, 1), "0 0 2 13 7");
    }

    // Promise 22
    private static void accept() {
        SharedTaxis x = Check.desk(TOWN);
        x.ask(1, 2, 1, 30, 0);
        Check.due("accept", x.accept(0), 30);
        Check.dueText("ride", Check.ride(x, 0), "1 1 2 1 30 45 0 5 5 0 -1 -1 0 0");
        Check.due("undoCount", x.undoCount(), 2);
        Check.due("accept", x.accept(0), -2);
        x.ask(0, 3, 1, 0, 0);
        Check.due("accept a refused one", x.accept(1), -2);
        x.ask(1, 0, 1, 500, 0);
        x.decline(2);
        Check.due("accept a declined one", x.accept(2), -2);
        Check.due("undoCount", x.undoCount(), 5);
        Check.noSuch("accept", () -> x.accept(3));
        Check.noSuch("accept", () -> x.accept(-1));
    }

    private static void acceptAnew() {
        // Both are offered the same empty taxi; what counts is the route as it is then.
        SharedTaxis x = twoZones("taxi 1 0 0 999;rule offer 60;");
        x.ask(0, 1, 1, 0, 0);
        x.ask(0, 1, 1, 0, 0);
        x.ask(0, 1, 1, 15, 0);
        Check.due("accept", x.accept(0), 0);
        String before = Check.everything(x);
        Check.due("accept", x.accept(1), -3);
        Check.dueText("everything", Check.everything(x), before);
        Check.due("undoCount", x.undoCount(), 4);
        Check.due("offer", x.offer(1, 0), 0);
        Check.due("offer", x.offer(2, 2), 15);
        Check.due("accept", x.accept(2), 22);
        // The taxi of the offer stays, though the other one would cost less now.
        SharedTaxis y = twoZones("taxi 4 0 0 999;taxi 6 0 0 999;");
        y.ask(1, 0, 1, 0, 0);
        Check.book(y, 0, 1, 5, 0, 0);
        Check.due("extra", y.extra(0, 0), 20);
        Check.due("extra", y.extra(0, 1), 10);
        Check.due("accept", y.accept(0), 10);
        Check.due("taxi", y.ride(0, 9), 0);
    }

    // Promise 23
    private static void decline() {
        SharedTaxis x = Check.desk(TOWN);
        x.ask(0, 1, 1, 0, 0);
        x.ask(0, 1, 1, 0, 0);
        x.ask(0, 1, 1, 0, 0);
        Check.due("decline", x.decline(1), 2);
        Check.due("state", x.ride(1, 0), 4);
        Check.due("decline", x.decline(1), -2);
        x.accept(0);
        Check.due("decline a booked one", x.decline(0), -2);
        Check.due("undoCount", x.undoCount(), 5);
        Check.due("decline", x.decline(2), 0);
        x.undo();
        Check.due("open offers", x.size(5), 1);
        x.advance(6);
        Check.due("decline an expired one", x.decline(2), -2);
        Check.noSuch("decline", () -> x.decline(3));
        Check.noSuch("decline", () -> x.decline(-1));
    }

    // Promise 24
    private static void cancel() {
        SharedTaxis x = Check.desk(TOWN);
        Check.book(x, 0, 2, 1, 0, 100);
        Check.book(x, 1, 2, 2, 0, 100);
        x.ask(0, 1, 1, 0, 0);
        Check.due("cancel an offered one", x.cancel(2), -2);
        Check.due("cancel", x.cancel(0), 2);
        Check.dueText("format", Check.format(x, 0), "+1@1 -1@2");
        Check.due("state", x.ride(0, 0), 6);
        Check.due("taxi", x.ride(0, 9), 0);
        Check.due("cancel", x.cancel(0), -2);
        x.undo();
        Check.due("cancel", x.cancel(1), 2);
        Check.dueText("format", Check.format(x, 0), "+0@0 -0@2");
        x.undo();
        x.advance(11);
        Check.due("cancel one aboard", x.cancel(0), -2);
        int count = x.undoCount();
        Check.due("cancel one that it has left for", x.cancel(1), -3);
        Check.due("undoCount", x.undoCount(), count);
        x.advance(30);
        Check.due("cancel one that is done", x.cancel(1), -2);
        Check.noSuch("cancel", () -> x.cancel(3));
        Check.noSuch("cancel", () -> x.cancel(-1));
        // It has left for the drop of another ride; this one can be cancelled yet.
        SharedTaxis y = Check.desk(TOWN);
        Check.book(y, 0, 1, 1, 0, 0);
        Check.book(y, 1, 2, 1, 12, 0);
        y.advance(5);
        Check.due("left", y.taxi(0, 9), 1);
        y.absent(1);
        Check.due("cancel an absent one", y.cancel(1), 1);
        Check.due("absent", y.ride(1, 13), 1);
        Check.dueText("format", Check.format(y, 0), "-0@1");
        Check.due("left", y.taxi(0, 9), 1);
        // It leaves at 20 for the pickup at 30.
        SharedTaxis z = Check.desk(TOWN);
        Check.book(z, 1, 2, 1, 30, 0);
        z.advance(20);
        Check.due("cancel", z.cancel(0), 0);
        z.undo();
        z.advance(1);
        Check.due("cancel", z.cancel(0), -3);
    }

    // Promise 25
    private static void absent() {
        SharedTaxis x = Check.desk(TOWN);
        Check.book(x, 0, 2, 1, 0, 100);
        Check.book(x, 1, 2, 2, 0, 100);
        x.ask(0, 1, 1, 0, 0);
        Check.due("absent an offered one", x.absent(2), -2);
        Check.due("absent", x.absent(1), 3);
        Check.dueText("format", Check.format(x, 0), "+0@0 +1@1 -0@2");
        Check.due("absent", x.ride(1, 13), 1);
        Check.due("state", x.ride(1, 0), 1);
        Check.due("absent", x.absent(1), -2);
        Check.due("undoCount", x.undoCount(), 6);
        x.advance(5);
        Check.due("absent one aboard", x.absent(0), -2);
        // It waits for ride 1 from 11 till 14, and goes on without it.
        Check.due("advance", x.advance(8), 0);
        Check.due("advance", x.advance(1), 1);
        Check.due("state", x.ride(1, 0), 5);
        Check.due("pickup done", x.ride(1, 10), 14);
        Check.due("parties", x.taxi(0, 7), 1);
        Check.due("absent a no-show", x.absent(1), -2);
        Check.noSuch("absent", () -> x.absent(3));
        Check.noSuch("absent", () -> x.absent(-1));
    }

    private static void absentInTime() {
        SharedTaxis x = Check.desk(TOWN + "rule dwell 9;rule fee 70;rule patience 2;");
        Check.book(x, 1, 2, 1, 0, 0);
        x.advance(15);
        Check.dueText("times", Check.times(x, 0), "0/10/19 19/24/33");
        // The taxi is at its zone since 10; it waits till 12, which is over already.
        Check.due("absent", x.absent(0), 1);
        Check.dueText("times", Check.times(x, 0), "0/10/12");
        x.setRule(4, 80);
        Check.due("advance", x.advance(1), 1);
        Check.dueText("taxi", Check.taxi(x, 0), "4 1 12 0 1000 0 0 0 10 -1");
        Check.dueText("account", Check.account(x, 0), "80 0 10 0 0 0");
        Check.due("charged", x.ride(0, 12), 80);
    }

    // Promise 26
    private static void advance() {
        SharedTaxis x = Check.desk(TOWN);
        Check.book(x, 0, 2, 1, 0, 100);
        Check.book(x, 1, 2, 2, 0, 100);
        Check.due("advance", x.advance(17), 2);
        Check.due("advance", x.advance(1), 1);
        Check.due("advance", x.advance(1), 1);
        Check.due("now", x.size(4), 19);
        Check.due("advance", x.advance(1), 0);
        x.undo();
        x.undo();
        x.undo();
        x.undo();
        Check.due("now", x.size(4), 0);
        Check.due("advance", x.advance(1440), 4);
        Check.dueText("ride", Check.ride(x, 0), "3 0 2 1 0 15 100 15 30 0 1 18 338 0");
        Check.dueText("ride", Check.ride(x, 1), "3 1 2 2 0 15 100 5 10 0 12 17 137 0");
        SharedTaxis y = twoZones("taxi 4 0 0 999;taxi 4 1 0 999;");
        Check.book(y, 0, 1, 1, 0, 0);
        Check.book(y, 1, 0, 1, 0, 0);
        Check.due("advance", y.advance(1), 2);
        Check.due("advance", y.advance(11), 2);
    }

    private static void advanceLimits() {
        SharedTaxis x = new SharedTaxis();
        Check.illegal("advance", () -> x.advance(0));
        Check.illegal("advance", () -> x.advance(-1));
        Check.illegal("advance", () -> x.advance(1441));
        Check.illegal("advance", () -> x.advance(Integer.MAX_VALUE));
        for (int i = 0; i < 6; i++) {
            Check.due("advance", x.advance(1440), 0);
        }
        Check.due("advance", x.advance(1360), -2);
        Check.due("now", x.size(4), 8640);
        Check.due("undoCount", x.undoCount(), 6);
        Check.due("advance", x.advance(1359), 0);
        Check.due("now", x.size(4), 9999);
        Check.due("advance", x.advance(1), -2);
        Check.illegal("advance", () -> x.advance(1441));
    }

    private static void advanceExpires() {
        SharedTaxis x = Check.desk(TOWN);
        x.ask(0, 1, 1, 0, 0);
        x.advance(2);
        x.setRule(2, 0);
        x.ask(0, 1, 1, 0, 0);
        x.advance(1);
        Check.due("state", x.ride(0, 0), 0);
        Check.due("state", x.ride(1, 0), 4);
        x.advance(2);
        Check.due("state", x.ride(0, 0), 0);
        Check.due("accept at the last time", x.accept(0), 5);
        x.undo();
        x.advance(1);
        Check.due("state", x.ride(0, 0), 4);
        Check.due("accept", x.accept(0), -2);
        Check.due("extra", x.extra(0, 0), -1);
        x.undo();
        Check.due("state", x.ride(0, 0), 0);
    }

    private static void advanceLeaving() {
        // The second stop becomes the first one on the way, and the taxi leaves for it as soon as it is free.
        SharedTaxis x = Check.desk(TOWN);
        Check.book(x, 0, 1, 1, 5, 0);
        Check.dueText("times", Check.times(x, 0), "5/5/6 6/16/17");
        x.advance(9);
        Check.dueText("times", Check.times(x, 0), "6/16/17");
        Check.due("left", x.taxi(0, 9), 6);
        // A taxi that has not left yet leaves at the present time, whatever it was when the ride was booked.
        SharedTaxis y = twoZones("taxi 4 0 0 999;");
        y.advance(7);
        Check.book(y, 1, 0, 1, 12, 0);
        Check.dueText("times", Check.times(y, 0), "9/19/20 20/30/31");
        y.advance(2);
        Check.due("left", y.taxi(0, 9), -1);
        y.advance(1);
        Check.due("left", y.taxi(0, 9), 9);
        Check.dueText("times", Check.times(y, 0), "9/19/20 20/30/31");
    }

    /** A rest counts by the rule as it is when the stop is done to which the taxi leaves. */
    private static void advanceRest() {
        SharedTaxis x = twoZones("taxi 4 0 0 999;");
        Check.book(x, 0, 1, 1, 0, 0);
        Check.book(x, 1, 0, 1, 42, 0);
        x.advance(45);
        Check.dueText("taxi", Check.taxi(x, 0), "4 1 43 0 999 1 1 1 0 43");
        x.undo();
        x.setRule(6, 31);
        x.advance(45);
        Check.due("stint", x.taxi(0, 8), 10);
        x.advance(20);
        Check.due("stint", x.taxi(0, 8), 20);
        SharedTaxis y = twoZones("taxi 4 0 0 999;");
        Check.book(y, 0, 1, 1, 0, 0);
        Check.book(y, 0, 1, 1, 50, 0);
        // It is free at 12 and leaves at 40, so it rests for 28 minutes.
        y.advance(45);
        Check.due("stint", y.taxi(0, 8), 10);
        y.setRule(6, 28);
        y.advance(6);
        Check.due("stint", y.taxi(0, 8), 10);
        y.undo();
        y.setRule(6, 29);
        y.advance(6);
        Check.due("stint", y.taxi(0, 8), 20);
        y.advance(50);
        Check.due("stint", y.taxi(0, 8), 30);
    }

    /** A stop can be done in the past when a rule gets shorter; then the taxi leaves at the present time. */
    private static void advanceLateRules() {
        SharedTaxis x = Check.desk(TOWN + "rule dwell 9;");
        Check.book(x, 0, 1, 1, 0, 0);
        x.advance(6);
        Check.dueText("times", Check.times(x, 0), "0/0/9 9/19/28");
        x.setRule(1, 2);
        Check.dueText("times", Check.times(x, 0), "0/0/2 2/12/14");
        Check.due("advance", x.advance(1), 1);
        Check.due("pickup done", x.ride(0, 10), 2);
        Check.due("free", x.taxi(0, 2), 2);
        Check.due("left", x.taxi(0, 9), 6);
        Check.dueText("times", Check.times(x, 0), "6/16/18");
    }

    private static void advanceFares() {
        SharedTaxis x = Check.desk(TOWN);
        Check.book(x, 0, 2, 1, 0, 100);
        Check.book(x, 1, 2, 2, 0, 100);
        x.advance(1);
        Check.due("paid", x.ride(0, 12), 100);
        x.advance(11);
        Check.due("paid", x.ride(0, 12), 300);
        Check.due("paid", x.ride(1, 12), 100);
        // The discount and the rate count as they are when a stop is done.
        x.setRule(7, 90);
        x.setRate(11);
        x.advance(6);
        Check.due("paid", x.ride(0, 12), 303);
        Check.due("paid", x.ride(1, 12), 103);
        Check.due("amounts", x.account(0, 5), 206);
        // The one that came aboard first leaves first, and the others pay on, in their order.
        SharedTaxis y = Check.desk("zones 3;road 0 1 10;road 1 2 5;taxi 4 0 0 999;tariff 0 1;rule dwell 0;");
        Check.book(y, 0, 2, 1, 0, 200);
        Check.book(y, 0, 2, 1, 0, 200);
        Check.book(y, 0, 1, 2, 0, 200);
        Check.dueText("format", Check.format(y, 0), "+2@0 +1@0 +0@0 -2@1 -1@2 -0@2");
        y.advance(14);
        Check.due("persons", y.taxi(0, 6), 2);
        Check.due("parties", y.taxi(0, 7), 2);
        Check.due("paid", y.ride(2, 12), 4);
        Check.due("fare", y.fare(1), 6);
        Check.due("fare", y.fare(0), 5);
        y.advance(1);
        Check.due("paid", y.ride(2, 12), 4);
        Check.due("paid", y.ride(1, 12), 6);
        Check.due("paid", y.ride(0, 12), 5);
    }

    // Promise 27
    private static void tip() {
        SharedTaxis x = twoZones("taxi 1 0 0 999;taxi 1 0 0 999;tariff 7 0;");
        Check.due("tip", x.tip(1, 1), 1);
        Check.due("tip", x.tip(1, 1999999998), 1999999999);
        Check.due("tip", x.tip(1, 2), -5);
        Check.due("tip", x.tip(1, 2000000000), -5);
        Check.due("undoCount", x.undoCount(), 2);
        Check.due("tip", x.tip(1, 1), 2000000000);
        Check.due("tip", x.tip(1, 1), -5);
        Check.dueText("account", Check.account(x, 1), "2000000000 2000000000 0 0 0 0");
        Check.due("tip", x.tip(0, 2000000000), 2000000000);
        Check.book(x, 0, 1, 1, 0, 0);
        x.advance(1);
        Check.dueText("account", Check.account(x, 0), "2000000007 2000000000 0 0 0 0");
        Check.due("tip", x.tip(0, 1), -5);
        Check.due("tip", x.tip(0, 2000000000), -5);
        Check.illegal("tip", () -> x.tip(0, 0));
        Check.illegal("tip", () -> x.tip(0, -1));
        Check.illegal("tip", () -> x.tip(0, 2000000001));
        Check.noSuch("tip", () -> x.tip(2, 0));
        Check.noSuch("tip", () -> x.tip(-1, 1));
    }

    // Promise 28
    private static void setRate() {
        SharedTaxis x = Check.desk(TOWN);
        Check.due("setRate", x.setRate(999), 20);
        Check.due("setRate", x.setRate(0), 999);
        Check.due("setRate", x.setRate(0), 0);
        Check.due("undoCount", x.undoCount(), 3);
        Check.illegal("setRate", () -> x.setRate(-1));
        Check.illegal("setRate", () -> x.setRate(1000));
        Check.due("rate", x.size(8), 0);
        Check.due("undoCount", x.undoCount(), 3);
    }

    // Promise 29
    private static void setEnd() {
        SharedTaxis x = twoZones("taxi 1 0 0 99;taxi 1 1 50 999;");
        Check.due("setEnd", x.setEnd(1, 51), 999);
        Check.due("setEnd", x.setEnd(1, 2879), 51);
        Check.due("end", x.taxi(1, 4), 2879);
        Check.due("end", x.taxi(0, 4), 99);
        Check.illegal("setEnd", () -> x.setEnd(1, 50));
        Check.illegal("setEnd", () -> x.setEnd(1, -1));
        Check.illegal("setEnd", () -> x.setEnd(1, 2880));
        Check.noSuch("setEnd", () -> x.setEnd(2, 0));
        Check.noSuch("setEnd", () -> x.setEnd(-1, 9));
        Check.due("undoCount", x.undoCount(), 2);
        Check.book(x, 0, 1, 1, 0, 0);
        Check.due("setEnd", x.setEnd(0, 1), 99);
        Check.due("stops", x.taxi(0, 5), 2);
        Check.due("advance", x.advance(30), 2);
    }

    // Promise 30
    private static void setRule() {
        int[] first = {15, 1, 5, 3, 0, 240, 30, 0, 0, 0};
        int[] least = {0, 0, 0, 0, 0, 1, 1, 0, 0, 0};
        int[] most = {60, 9, 60, 30, 9999, 999, 99, 90, 90, 90};
        for (int i = 0; i <= 9; i++) {
            SharedTaxis x = new SharedTaxis();
            int rule = i;
            Check.illegal("setRule", () -> x.setRule(rule, least[rule] - 1));
            Check.illegal("setRule", () -> x.setRule(rule, most[rule] + 1));
            Check.due("undoCount", x.undoCount(), 0);
            Check.due("setRule", x.setRule(i, least[i]), first[i]);
            Check.due("setRule", x.setRule(i, most[i]), least[i]);
            Check.due("undoCount", x.undoCount(), 2);
            for (int other = 0; other <= 9; other++) {
                Check.due("rule", x.rule(other), other == i ? most[i] : first[other]);
            }
        }
        SharedTaxis x = new SharedTaxis();
        Check.noSuch("setRule", () -> x.setRule(10, -1));
        Check.noSuch("setRule", () -> x.setRule(-1, 1));
        // Offers, ready times and latest pickups stay.
        SharedTaxis y = twoZones("taxi 1 0 0 999;");
        y.ask(0, 1, 1, 10, 0);
        y.setRule(0, 1);
        y.setRule(2, 1);
        Check.dueText("ride", Check.ride(y, 0), "0 0 1 1 10 25 0 10 10 -1 -1 -1 0 0");
        Check.due("offer", y.offer(0, 4), 5);
        y.advance(5);
        Check.due("accept", y.accept(0), 10);
    }
}
