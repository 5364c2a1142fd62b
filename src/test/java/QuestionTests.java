/** Promises 5 to 20: what the desk tells, with the answers worked out by hand from the document. */
public final class QuestionTests {
    private static final String TOWN = "zones 4;road 0 1 10;road 1 2 5;road 0 2 20;taxi 4 0 0 1000;"
        + "tariff 100 20;discount 2 25;";

    public static void main(String[] args) {
        size();
        rule();
        minutes();
        taxi();
        taxiThatWaits();
        account();
        stop();
        stopOfAbsent();
        ride();
        offer();
        extra();
        fare();
        fareOfMany();
        aloneFare();
        keeps();
        keepsDetour();
        keepsWait();
        keepsStint();
        routeMinutes();
        rides();
        meanFare();
        sharedPart();
        Check.end();
    }

    /** The route +0@0 +1@1 -1@2 -0@2, at time 0. */
    private static SharedTaxis shared() {
        SharedTaxis x = Check.desk(TOWN);
        Check.book(x, 0, 2, 1, 0, 100);
        Check.book(x, 1, 2, 2, 0, 100);
        Check.dueText("format", Check.format(x, 0), "+0@0 +1@1 -1@2 -0@2");
        return x;
    }

    // Promise 5
    private static void size() {
        SharedTaxis x = shared();
        x.ask(0, 1, 1, 300, 0);
        x.ask(0, 3, 1, 300, 0);
        x.ask(1, 0, 1, 400, 0);
        int[] at0 = {4, 3, 1, 5, 0, 2, 4, 100, 20};
        for (int i = 0; i < at0.length; i++) {
            Check.due("size " + i, x.size(i), at0[i]);
        }
        x.setRate(7);
        x.advance(6);
        int[] at6 = {4, 3, 1, 5, 6, 0, 3, 100, 7};
        for (int i = 0; i < at6.length; i++) {
            Check.due("size " + i, x.size(i), at6[i]);
        }
        SharedTaxis two = Check.desk("zones 2;road 0 1 9;taxi 1 0 0 99;taxi 1 1 0 99;");
        Check.book(two, 0, 1, 1, 0, 0);
        Check.book(two, 1, 0, 1, 0, 0);
        Check.due("size", two.size(6), 4);
        Check.noSuch("size", () -> x.size(-1));
        Check.noSuch("size", () -> x.size(9));
        Check.noSuch("size", () -> x.size(Integer.MIN_VALUE));
    }

    // Promise 6
    private static void rule() {
        SharedTaxis x = Check.desk("zones 2;rule wait 1;rule dwell 2;rule offer 3;rule patience 4;rule fee 5;rule stint 6;"
            + "rule rest 7;discount 2 8;discount 3 9;discount 4 10;");
        for (int i = 0; i <= 9; i++) {
            Check.due("rule", x.rule(i), i + 1);
        }
        Check.noSuch("rule", () -> x.rule(-1));
        Check.noSuch("rule", () -> x.rule(10));
    }

    // Promise 7
    private static void minutes() {
        SharedTaxis x = Check.desk(TOWN);
        Check.due("minutes", x.minutes(0, 2), 15);
        Check.due("minutes", x.minutes(2, 0), 15);
        Check.due("minutes", x.minutes(1, 0), 10);
        Check.due("minutes", x.minutes(3, 3), 0);
        Check.due("minutes", x.minutes(0, 3), -1);
        Check.due("minutes", x.minutes(3, 2), -1);
        Check.noSuch("minutes", () -> x.minutes(0, 4));
        Check.noSuch("minutes", () -> x.minutes(4, 0));
        Check.noSuch("minutes", () -> x.minutes(-1, 0));
        Check.noSuch("minutes", () -> x.minutes(0, -1));
        SharedTaxis line = Check.desk("zones 8;road 6 7 99;road 5 6 99;road 0 1 99;road 4 5 99;road 1 2 99;road 3 4 99;"
            + "road 2 3 99;");
        Check.due("minutes", line.minutes(0, 7), 693);
        Check.due("minutes", line.minutes(7, 0), 693);
        Check.due("minutes", line.minutes(5, 2), 297);
        SharedTaxis star = Check.desk("zones 4;road 0 1 9;road 0 2 5;road 3 0 1;road 1 2 14;road 2 3 7;");
        Check.due("minutes", star.minutes(1, 2), 14);
        Check.due("minutes", star.minutes(1, 3), 10);
        Check.due("minutes", star.minutes(3, 2), 6);
    }

    // Promise 8
    private static void taxi() {
        SharedTaxis x = shared();
        Check.dueText("taxi", Check.taxi(x, 0), "4 0 0 0 1000 4 0 0 0 -1");
        x.advance(11);
        Check.dueText("taxi", Check.taxi(x, 0), "4 0 1 0 1000 3 1 1 0 1");
        x.advance(1);
        Check.dueText("taxi", Check.taxi(x, 0), "4 1 12 0 1000 2 3 2 10 -1");
        x.advance(1);
        Check.dueText("taxi", Check.taxi(x, 0), "4 1 12 0 1000 2 3 2 10 12");
        x.advance(5);
        Check.dueText("taxi", Check.taxi(x, 0), "4 2 18 0 1000 1 1 1 15 -1");
        x.advance(100);
        Check.dueText("taxi", Check.taxi(x, 0), "4 2 19 0 1000 0 0 0 15 -1");
        Check.noSuch("taxi", () -> x.taxi(1, 0));
        Check.noSuch("taxi", () -> x.taxi(-1, 0));
        Check.noSuch("taxi", () -> x.taxi(0, 10));
        Check.noSuch("taxi", () -> x.taxi(0, -1));
    }

    /** It leaves only so early that it arrives at the ready time, and not before its shift begins. */
    private static void taxiThatWaits() {
        SharedTaxis x = Check.desk("zones 2;road 0 1 10;taxi 4 0 7 1000;");
        Check.dueText("taxi", Check.taxi(x, 0), "4 0 7 7 1000 0 0 0 0 -1");
        Check.book(x, 1, 0, 1, 30, 0);
        x.advance(20);
        Check.due("left", x.taxi(0, 9), -1);
        x.advance(1);
        Check.due("left", x.taxi(0, 9), 20);
        SharedTaxis y = Check.desk("zones 2;road 0 1 10;taxi 4 0 7 1000;");
        Check.book(y, 1, 0, 1, 5, 0);
        Check.dueText("times", Check.times(y, 0), "7/17/18 18/28/29");
        y.advance(7);
        Check.due("left", y.taxi(0, 9), -1);
        y.advance(1);
        Check.due("left", y.taxi(0, 9), 7);
        // A taxi without stops stays free since it was; it leaves at the present time.
        SharedTaxis z = Check.desk("zones 2;road 0 1 10;taxi 4 0 7 1000;");
        z.advance(50);
        Check.dueText("taxi", Check.taxi(z, 0), "4 0 7 7 1000 0 0 0 0 -1");
        Check.book(z, 1, 0, 1, 0, 0);
        Check.dueText("times", Check.times(z, 0), "50/60/61 61/71/72");
    }

    // Promise 9
    private static void account() {
        SharedTaxis x = shared();
        x.tip(0, 5);
        Check.dueText("account", Check.account(x, 0), "5 5 0 0 0 0");
        x.advance(11);
        Check.dueText("account", Check.account(x, 0), "105 5 0 0 0 0");
        x.advance(1);
        Check.dueText("account", Check.account(x, 0), "405 5 10 10 0 200");
        x.advance(6);
        Check.dueText("account", Check.account(x, 0), "480 5 15 15 5 275");
        x.advance(1);
        // Ten minutes and five without a party, to a ride from zone 0.
        Check.book(x, 0, 1, 1, 0, 0);
        x.advance(16);
        Check.dueText("account", Check.account(x, 0), "580 5 30 15 5 275");
        x.setRule(4, 33);
        x.advance(11);
        int late = Check.book(x, 1, 0, 1, 0, 0);
        x.absent(late);
        x.advance(3);
        Check.dueText("account", Check.account(x, 0), "813 5 40 25 5 475");
        Check.noSuch("account", () -> x.account(0, -1));
        Check.noSuch("account", () -> x.account(0, 6));
        Check.noSuch("account", () -> x.account(1, 0));
        Check.noSuch("account", () -> x.account(-1, 0));
    }

    // Promise 10
    private static void stop() {
        SharedTaxis x = shared();
        int[][] due = {{0, 1, 0, 0, 0, 1}, {1, 1, 1, 1, 11, 12}, {1, 0, 2, 12, 17, 18}, {0, 0, 2, 18, 18, 19}};
        for (int i = 0; i < due.length; i++) {
            for (int what = 0; what <= 5; what++) {
                Check.due("stop " + i + " " + what, x.stop(0, i, what), due[i][what]);
            }
        }
        x.advance(5);
        Check.dueText("times", Check.times(x, 0), "1/11/12 12/17/18 18/18/19");
        Check.noSuch("stop", () -> x.stop(0, 3, 0));
        Check.noSuch("stop", () -> x.stop(0, -1, 0));
        Check.noSuch("stop", () -> x.stop(0, 0, 6));
        Check.noSuch("stop", () -> x.stop(0, 0, -1));
        Check.noSuch("stop", () -> x.stop(1, 0, 0));
        Check.noSuch("stop", () -> x.stop(-1, 0, 0));
        // Behind the first stop it waits for a ready time, too.
        SharedTaxis y = Check.desk(TOWN);
        Check.book(y, 0, 1, 1, 0, 0);
        Check.book(y, 2, 1, 1, 40, 0);
        Check.dueText("times", Check.times(y, 0), "0/0/1 1/11/12 35/40/41 41/46/47");
    }

    private static void stopOfAbsent() {
        SharedTaxis x = Check.desk(TOWN);
        Check.book(x, 1, 2, 1, 30, 0);
        Check.book(x, 2, 1, 1, 38, 0);
        Check.dueText("times", Check.times(x, 0), "20/30/31 31/36/37 38/38/39 39/44/45");
        x.absent(0);
        x.setRule(1, 2);
        x.setRule(3, 9);
        Check.dueText("times", Check.times(x, 0), "20/30/39 39/44/46 46/51/53");
    }

    // Promise 11
    private static void ride() {
        SharedTaxis x = shared();
        Check.dueText("ride", Check.ride(x, 0), "1 0 2 1 0 15 100 15 30 0 -1 -1 0 0");
        x.ask(0, 3, 5, 6, 7);
        x.ask(2, 0, 2, 600, 10);
        x.ask(3, 0, 1, 0, 200);
        Check.dueText("ride", Check.ride(x, 4), "4 3 0 1 0 15 200 -1 -1 -1 -1 -1 0 0");
        x.undo();
        x.setRule(0, 0);
        Check.dueText("ride", Check.ride(x, 2), "4 0 3 5 6 21 7 -1 -1 -1 -1 -1 0 0");
        Check.dueText("ride", Check.ride(x, 3), "0 2 0 2 600 615 10 15 16 -1 -1 -1 0 0");
        x.advance(1);
        Check.dueText("ride", Check.ride(x, 0), "2 0 2 1 0 15 100 15 30 0 1 -1 100 0");
        x.decline(3);
        Check.dueText("ride", Check.ride(x, 3), "4 2 0 2 600 615 10 15 16 -1 -1 -1 0 0");
        x.advance(18);
        Check.dueText("ride", Check.ride(x, 0), "3 0 2 1 0 15 100 15 30 0 1 18 338 0");
        Check.dueText("ride", Check.ride(x, 1), "3 1 2 2 0 15 100 5 10 0 12 17 137 0");
        x.setRule(4, 55);
        x.setRule(0, 20);
        int late = Check.book(x, 1, 0, 1, 0, 0);
        x.absent(late);
        Check.dueText("ride", Check.ride(x, late), "1 1 0 1 19 39 0 10 10 0 -1 -1 0 1");
        x.advance(8);
        Check.dueText("ride", Check.ride(x, late), "5 1 0 1 19 39 0 10 10 0 27 -1 55 1");
        int gone = Check.book(x, 1, 0, 1, 9, 0);
        x.cancel(gone);
        Check.dueText("ride", Check.ride(x, gone), "6 1 0 1 36 56 0 10 10 0 -1 -1 0 0");
        Check.noSuch("ride", () -> x.ride(0, 14));
        Check.noSuch("ride", () -> x.ride(0, -1));
        Check.noSuch("ride", () -> x.ride(6, 0));
        Check.noSuch("ride", () -> x.ride(-1, 0));
    }

    // Promise 12
    private static void offer() {
        SharedTaxis x = Check.desk(TOWN);
        x.advance(2);
        x.ask(1, 2, 1, 4, 0);
        Check.dueText("offer", Check.offer(x, 0), "0 15 12 18 7");
        // It stays as it was when it was made.
        x.setRule(2, 60);
        x.setRule(1, 9);
        Check.book(x, 1, 2, 1, 20, 0);
        x.advance(5);
        Check.dueText("offer", Check.offer(x, 0), "0 15 12 18 7");
        x.advance(1);
        Check.dueText("offer", Check.offer(x, 0), "-1 -1 -1 -1 -1");
        Check.dueText("offer of a booked one", Check.offer(x, 1), "-1 -1 -1 -1 -1");
        x.ask(0, 3, 1, 0, 0);
        Check.dueText("offer of a refused one", Check.offer(x, 2), "-1 -1 -1 -1 -1");
        Check.noSuch("offer", () -> x.offer(0, 5));
        Check.noSuch("offer", () -> x.offer(0, -1));
        Check.noSuch("offer", () -> x.offer(3, 0));
        Check.noSuch("offer", () -> x.offer(-1, 0));
    }

    // Promise 13
    private static void extra() {
        SharedTaxis x = Check.desk("zones 3;road 0 1 10;road 1 2 5;taxi 4 0 0 1000;taxi 4 2 0 1000;taxi 1 1 0 1000;");
        x.ask(1, 2, 2, 20, 0);
        Check.due("extra", x.extra(0, 0), 15);
        Check.due("extra", x.extra(0, 1), 10);
        Check.due("extra of a taxi with too few seats", x.extra(0, 2), -1);
        x.ask(2, 1, 1, 0, 0);
        x.accept(1);
        Check.due("extra now", x.extra(0, 1), 5);
        Check.due("extra of a booked one", x.extra(1, 0), -1);
        x.accept(0);
        Check.due("extra of a booked one", x.extra(0, 0), -1);
        Check.noSuch("extra", () -> x.extra(0, 3));
        Check.noSuch("extra", () -> x.extra(0, -1));
        Check.noSuch("extra", () -> x.extra(2, 0));
        Check.noSuch("extra", () -> x.extra(-1, 0));
        Check.noSuch("extra", () -> x.extra(2, 3));
    }

    // Promise 14
    private static void fare() {
        SharedTaxis x = shared();
        Check.due("fare", x.fare(0), 338);
        Check.due("fare", x.fare(1), 137);
        x.advance(12);
        Check.due("fare aboard", x.fare(0), 338);
        Check.due("fare aboard", x.fare(1), 137);
        // From now on a minute costs 41: 205 - 51 = 154 for two.
        x.setRate(41);
        Check.due("fare", x.fare(0), 377);
        Check.due("fare", x.fare(1), 177);
        x.advance(7);
        Check.due("fare when it is done", x.fare(0), -1);
        Check.due("paid", x.ride(0, 12), 377);
        Check.due("paid", x.ride(1, 12), 177);
        x.ask(2, 1, 1, 60, 0);
        Check.due("fare of an offered one", x.fare(2), -1);
        x.accept(2);
        Check.due("fare", x.fare(2), 305);
        x.absent(2);
        Check.due("fare of an absent one", x.fare(2), -1);
        x.cancel(2);
        Check.due("fare of a cancelled one", x.fare(2), -1);
        Check.noSuch("fare", () -> x.fare(3));
        Check.noSuch("fare", () -> x.fare(-1));
        // Behind the drop of the other one it pays alone: 100, 200, 38 and 100.
        SharedTaxis w = Check.desk("zones 4;road 0 1 10;road 1 2 5;road 2 3 5;taxi 4 0 0 1000;tariff 100 20;discount 2 25;");
        Check.book(w, 0, 3, 1, 0, 100);
        Check.book(w, 1, 2, 1, 0, 100);
        Check.dueText("format", Check.format(w, 0), "+0@0 +1@1 -1@2 -0@3");
        Check.due("fare", w.fare(0), 438);
        Check.due("fare", w.fare(1), 137);
        // A party that will not come aboard shares nothing.
        SharedTaxis y = shared();
        y.absent(1);
        Check.due("fare", y.fare(0), 400);
        SharedTaxis z = shared();
        z.absent(0);
        Check.due("fare", z.fare(1), 200);
    }

    /** Later rides are taken aboard ahead of earlier ones here, as they are arrived at earlier then. */
    private static SharedTaxis together(int parties) {
        SharedTaxis x = Check.desk("zones 2;road 0 1 7;taxi 6 0 0 999;tariff 10 11;discount 2 3;discount 3 10;discount 4 50;");
        for (int i = 0; i < parties; i++) {
            Check.book(x, 0, 1, 1, 0, 200);
        }
        return x;
    }

    private static void fares(int parties, int... due) {
        SharedTaxis x = together(parties);
        for (int i = 0; i < parties; i++) {
            Check.due("fare of " + i + " of " + parties, x.fare(i), due[i]);
        }
        x.advance(parties);
        Check.due("parties aboard", x.taxi(0, 7), parties);
        for (int i = 0; i < parties; i++) {
            Check.due("fare aboard of " + i + " of " + parties, x.fare(i), due[i]);
        }
        x.advance(20);
        int sum = 0;
        for (int i = 0; i < parties; i++) {
            Check.due("paid by " + i + " of " + parties, x.ride(i, 12), due[i]);
            sum += due[i];
        }
        Check.due("takings", x.account(0, 0), sum);
        Check.due("amounts", x.account(0, 5), sum - 10 * parties);
    }

    private static void fareOfMany() {
        fares(1, 87);
        // 77 - 2 = 75
        fares(2, 47, 48);
        // 77 - 7 = 70
        fares(3, 33, 33, 34);
        // 77 - 38 = 39
        fares(4, 19, 20, 20, 20);
        fares(5, 17, 18, 18, 18, 18);
        fares(6, 16, 16, 16, 17, 17, 17);
    }

    // Promise 15
    private static void aloneFare() {
        SharedTaxis x = Check.desk(TOWN);
        Check.due("aloneFare", x.aloneFare(0, 2), 400);
        Check.due("aloneFare", x.aloneFare(2, 0), 400);
        Check.due("aloneFare", x.aloneFare(3, 3), 100);
        Check.due("aloneFare", x.aloneFare(3, 0), -1);
        x.setRate(0);
        Check.due("aloneFare", x.aloneFare(0, 2), 100);
        Check.noSuch("aloneFare", () -> x.aloneFare(0, 4));
        Check.noSuch("aloneFare", () -> x.aloneFare(4, 0));
        Check.noSuch("aloneFare", () -> x.aloneFare(-1, 0));
        Check.noSuch("aloneFare", () -> x.aloneFare(0, -1));
    }

    private static void keeps(SharedTaxis x, boolean due) {
        Check.due("keeps", x.keeps(0) ? 1 : 0, due ? 1 : 0);
    }

    // Promise 16
    private static void keeps() {
        SharedTaxis x = Check.desk("zones 2;road 0 1 10;taxi 4 0 0 1000;");
        x.setEnd(0, 1);
        x.advance(5);
        keeps(x, true);
        x.setEnd(0, 1000);
        Check.book(x, 0, 1, 1, 0, 0);
        keeps(x, true);
        x.setEnd(0, 17);
        keeps(x, true);
        x.setEnd(0, 16);
        keeps(x, false);
        x.advance(7);
        Check.due("stops", x.taxi(0, 5), 1);
        keeps(x, false);
        x.setEnd(0, 17);
        keeps(x, true);
        x.undo();
        x.undo();
        x.cancel(0);
        keeps(x, true);
        Check.noSuch("keeps", () -> x.keeps(1));
        Check.noSuch("keeps", () -> x.keeps(-1));
    }

    /** Ride 0 may be aboard for 16 minutes, so it is let out ahead of ride 1, which may take its time. */
    private static void keepsDetour() {
        SharedTaxis x = Check.desk(TOWN);
        Check.book(x, 0, 2, 1, 0, 7);
        Check.book(x, 1, 2, 1, 0, 200);
        Check.dueText("format", Check.format(x, 0), "+0@0 +1@1 -0@2 -1@2");
        keeps(x, true);
        x.setRule(1, 2);
        keeps(x, false);
        x.setRule(1, 0);
        keeps(x, true);
        x.undo();
        x.undo();
        x.advance(1);
        keeps(x, true);
        // The pickup was done at 1, so the most minutes aboard end at 17.
        x.setRule(1, 2);
        keeps(x, false);
    }

    private static void keepsWait() {
        SharedTaxis x = Check.desk("zones 3;road 0 1 10;road 1 2 5;taxi 4 0 0 1000;rule wait 12;");
        Check.book(x, 0, 2, 1, 0, 200);
        Check.book(x, 1, 2, 1, 0, 200);
        keeps(x, true);
        x.setRule(1, 2);
        keeps(x, true);
        x.setRule(1, 3);
        keeps(x, false);
        x.absent(1);
        keeps(x, false);
        x.setRule(0, 60);
        keeps(x, false);
    }

    private static void keepsStint() {
        SharedTaxis x = Check.desk("zones 3;road 0 1 10;road 1 2 5;taxi 4 0 0 1000;rule rest 20;");
        Check.book(x, 0, 1, 1, 0, 0);
        Check.book(x, 1, 2, 1, 31, 0);
        Check.dueText("times", Check.times(x, 0), "0/0/1 1/11/12 31/31/32 32/37/38");
        x.setRule(5, 15);
        keeps(x, true);
        x.setRule(5, 14);
        keeps(x, false);
        x.setRule(6, 19);
        keeps(x, true);
        x.setRule(5, 10);
        keeps(x, true);
        x.setRule(5, 9);
        keeps(x, false);
        // The stint so far counts, too: 10 minutes till 12.
        x.setRule(6, 20);
        x.setRule(5, 14);
        x.advance(12);
        keeps(x, false);
        x.setRule(5, 15);
        keeps(x, true);
    }

    // Promise 17
    private static void routeMinutes() {
        SharedTaxis x = shared();
        Check.due("routeMinutes", x.routeMinutes(0), 15);
        x.advance(11);
        Check.due("routeMinutes on the way", x.routeMinutes(0), 15);
        x.advance(1);
        Check.due("routeMinutes", x.routeMinutes(0), 5);
        x.advance(7);
        Check.due("routeMinutes", x.routeMinutes(0), 0);
        Check.book(x, 0, 1, 1, 0, 0);
        Check.due("routeMinutes", x.routeMinutes(0), 25);
        Check.noSuch("routeMinutes", () -> x.routeMinutes(1));
        Check.noSuch("routeMinutes", () -> x.routeMinutes(-1));
    }

    // Promise 18
    private static void rides() {
        SharedTaxis x = shared();
        x.ask(0, 1, 1, 500, 0);
        x.ask(0, 1, 1, 500, 0);
        x.ask(0, 1, 1, 500, 0);
        x.decline(2);
        int[] first = {2, 2, 0, 0, 1, 0, 0};
        for (int state = 0; state <= 6; state++) {
            Check.due("rides", x.rides(state), first[state]);
        }
        x.accept(3);
        x.cancel(3);
        x.absent(1);
        x.advance(1);
        x.ask(0, 3, 1, 0, 0);
        int[] second = {1, 1, 1, 0, 2, 0, 1};
        for (int state = 0; state <= 6; state++) {
            Check.due("rides", x.rides(state), second[state]);
        }
        x.advance(30);
        int[] third = {0, 0, 0, 1, 3, 1, 1};
        for (int state = 0; state <= 6; state++) {
            Check.due("rides", x.rides(state), third[state]);
        }
        Check.illegal("rides", () -> x.rides(-1));
        Check.illegal("rides", () -> x.rides(7));
    }

    // Promise 19
    private static void meanFare() {
        SharedTaxis x = shared();
        Check.dueNumber("meanFare", x.meanFare(), 0.0);
        x.advance(1);
        Check.dueNumber("meanFare with one aboard", x.meanFare(), 0.0);
        x.advance(17);
        Check.dueNumber("meanFare", x.meanFare(), 137.0);
        x.advance(1);
        Check.dueNumber("meanFare", x.meanFare(), 237.5);
        x.setRule(4, 1000);
        Check.book(x, 2, 1, 1, 0, 0);
        Check.book(x, 2, 1, 1, 0, 200);
        x.absent(3);
        x.advance(20);
        Check.due("no-show", x.ride(3, 0), 5);
        Check.dueNumber("meanFare", x.meanFare(), (338.0 + 137.0 + 200.0) / 3.0);
        SharedTaxis y = together(3);
        y.advance(30);
        Check.dueNumber("meanFare", y.meanFare(), 100.0 / 3.0);
    }

    // Promise 20
    private static void sharedPart() {
        SharedTaxis x = shared();
        Check.dueNumber("sharedPart", x.sharedPart(), 0.0f);
        x.advance(12);
        Check.dueNumber("sharedPart", x.sharedPart(), 0.0f);
        x.advance(10);
        Check.dueNumber("sharedPart", x.sharedPart(), 5.0f / 15.0f);
        // Minutes without a party do not count; those of other taxis do.
        SharedTaxis y = Check.desk("zones 3;road 0 1 10;road 1 2 3;taxi 1 0 0 999;taxi 2 1 0 999;taxi 1 2 0 999;");
        Check.book(y, 1, 2, 1, 0, 200);
        Check.book(y, 1, 2, 1, 0, 200);
        Check.book(y, 0, 1, 1, 0, 0);
        y.ask(0, 1, 1, 30, 0);
        y.accept(3);
        y.advance(80);
        Check.dueText("accounts", Check.account(y, 0), "0 0 30 20 0 0");
        Check.dueText("accounts", Check.account(y, 1), "0 0 3 3 3 0");
        Check.dueNumber("sharedPart", y.sharedPart(), 3.0f / 23.0f);
    }
}
