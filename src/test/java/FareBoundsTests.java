/** Sections 4 and 5 of the document: a test for each sentence that names a bound of fares or rides. */
public final class FareBoundsTests {
    private static final String TOWN = "zones 4;road 0 1 10;road 1 2 5;road 0 2 20;taxi 4 0 0 1000;"
        + "tariff 100 20;discount 2 25;";

    public static void main(String[] args) {
        flagWhenAboard();
        flagRange();
        noPartyAboard();
        rateTimesMinutes();
        noDiscountForOne();
        discountForEach();
        discountRange();
        discountCutOff();
        sharedEqually();
        centsLeftOver();
        fewerCentsThanParties();
        orderAboard();
        orderBehindDrop();
        aboardOnTheWay();
        noWayMinutes();
        absentNotAboard();
        feeAtThatTime();
        feeRange();
        takings();
        sixPartiesAboard();
        atMostRides();
        ridesInOrder();
        everyState();
        lastRideIsOffered();
        lastRideIsBooked();
        lastRideIsDone();
        lastRideExpires();
        Check.end();
    }

    private static SharedTaxis twoZones(String more) {
        return Check.desk("zones 2;road 0 1 10;" + more);
    }

    // ---- 4. Fares

    private static void flagWhenAboard() {
        Check.says("When a party's pickup is done, it is aboard and pays the flag");
        SharedTaxis x = Check.desk(TOWN + "rule dwell 9;");
        Check.book(x, 0, 1, 3, 0, 0);
        x.advance(8);
        Check.due("paid", x.ride(0, 12), 0);
        Check.due("persons aboard", x.taxi(0, 6), 0);
        Check.due("parties aboard", x.taxi(0, 7), 0);
        x.advance(1);
        Check.due("paid", x.ride(0, 12), 100);
        Check.due("persons aboard", x.taxi(0, 6), 3);
        Check.due("parties aboard", x.taxi(0, 7), 1);
        Check.due("takings", x.account(0, 0), 100);
    }

    private static void flagRange() {
        Check.says("pays the flag; a flag (0 to 9999 cents, ..)");
        for (int flag : new int[] {0, 9999}) {
            SharedTaxis x = twoZones("taxi 1 0 0 99;tariff " + flag + " 0;");
            Check.book(x, 0, 1, 1, 0, 0);
            Check.due("fare", x.fare(0), flag);
            x.advance(50);
            Check.due("paid", x.ride(0, 12), flag);
        }
    }

    private static void noPartyAboard() {
        Check.says("is paid for by the k parties that were aboard on it (if k is at least 1)");
        SharedTaxis x = Check.desk(TOWN);
        Check.book(x, 1, 2, 1, 0, 0);
        x.advance(11);
        Check.dueText("account", Check.account(x, 0), "100 0 10 0 0 0");
        Check.due("paid", x.ride(0, 12), 100);
        x.advance(6);
        Check.dueText("account", Check.account(x, 0), "200 0 15 5 0 100");
    }

    private static void rateTimesMinutes() {
        Check.says("the price is m * rate; a rate (0 to 999 cents a minute, ..)");
        int[][] due = {{1, 0, 0}, {1, 1, 1}, {99, 999, 98901}};
        for (int[] d : due) {
            SharedTaxis x = Check.desk("zones 2;road 0 1 " + d[0] + ";taxi 1 0 0 999;tariff 0 " + d[1] + ";");
            Check.book(x, 0, 1, 1, 0, 0);
            x.advance(200);
            Check.due("paid", x.ride(0, 12), d[2]);
            Check.due("amounts", x.account(0, 5), d[2]);
        }
        // The longest way, with the greatest discount: 692307 - 623076.
        SharedTaxis x = Check.desk("zones 8;road 0 1 99;road 1 2 99;road 2 3 99;road 3 4 99;road 4 5 99;road 5 6 99;"
            + "road 6 7 99;taxi 2 0 0 2879;tariff 0 999;discount 2 90;rule stint 999;");
        Check.book(x, 0, 7, 1, 0, 200);
        Check.book(x, 0, 7, 1, 0, 200);
        x.advance(1000);
        Check.due("amounts", x.account(0, 5), 69231);
        Check.due("paid", x.ride(1, 12), 34616);
        Check.due("paid", x.ride(0, 12), 34615);
    }

    private static void noDiscountForOne() {
        Check.says("with the discount for k parties (0 for one)");
        SharedTaxis x = twoZones("taxi 4 0 0 99;tariff 0 10;discount 2 90;discount 3 90;discount 4 90;");
        Check.book(x, 0, 1, 4, 0, 0);
        x.advance(50);
        Check.due("paid", x.ride(0, 12), 100);
    }

    /** Rides 0 and on from zone 0 to zone 1, 7 minutes away; later ones come aboard first. */
    private static SharedTaxis together(int parties, String more) {
        SharedTaxis x = Check.desk("zones 2;road 0 1 7;taxi 6 0 0 999;rule wait 60;" + more);
        for (int i = 0; i < parties; i++) {
            Check.book(x, 0, 1, 1, 0, 200);
        }
        x.advance(parties);
        Check.due("parties aboard", x.taxi(0, 7), parties);
        return x;
    }

    private static void discountForEach() {
        Check.says("there are discounts .. for 2, 3, and 4 or more parties");
        // 77 without a discount, and less 2, 7 and 38.
        int[] due = {77, 75, 70, 39, 39, 39};
        for (int parties = 1; parties <= 6; parties++) {
            SharedTaxis x = together(parties, "tariff 0 11;discount 2 3;discount 3 10;discount 4 50;");
            x.advance(60);
            Check.due("amounts of " + parties, x.account(0, 5), due[parties - 1]);
            Check.due("takings of " + parties, x.account(0, 0), due[parties - 1]);
        }
    }

    private static void discountRange() {
        Check.says("discounts (0 to 90 percent, ..)");
        int[][] due = {{0, 700}, {1, 693}, {89, 77}, {90, 70}};
        for (int[] d : due) {
            SharedTaxis x = together(2, "tariff 0 100;discount 2 " + d[0] + ";");
            x.advance(60);
            Check.due("amounts", x.account(0, 5), d[1]);
        }
    }

    private static void discountCutOff() {
        Check.says("price - price * discount / 100 (the product divided without the fraction)");
        // Of 7 cents: 14 percent are 0.98 cents, 15 percent are 1.05 cents.
        int[][] due = {{14, 7}, {15, 6}, {28, 6}, {29, 5}, {90, 1}};
        for (int[] d : due) {
            SharedTaxis x = together(2, "tariff 0 1;discount 2 " + d[0] + ";");
            x.advance(60);
            Check.due("amounts with " + d[0], x.account(0, 5), d[1]);
        }
    }

    private static void sharedEqually() {
        Check.says("The amount is shared equally");
        for (int parties = 1; parties <= 6; parties++) {
            SharedTaxis x = together(parties, "tariff 0 60;");
            x.advance(60);
            for (int i = 0; i < parties; i++) {
                Check.due("paid by one of " + parties, x.ride(i, 12), 420 / parties);
            }
        }
    }

    private static void centsLeftOver() {
        Check.says("each of the first parties, .., pays one cent more, as many as cents are left over");
        // From ride 0 on, which came aboard last; the amounts are 75, 70, 39, 39 and 39.
        int[][] due = {{37, 38}, {23, 23, 24}, {9, 10, 10, 10}, {7, 8, 8, 8, 8}, {6, 6, 6, 7, 7, 7}};
        for (int[] d : due) {
            SharedTaxis x = together(d.length, "tariff 0 11;discount 2 3;discount 3 10;discount 4 50;");
            for (int i = 0; i < d.length; i++) {
                Check.due("fare of " + i + " of " + d.length, x.fare(i), d[i]);
            }
            x.advance(60);
            for (int i = 0; i < d.length; i++) {
                Check.due("paid by " + i + " of " + d.length, x.ride(i, 12), d[i]);
            }
        }
    }

    private static void fewerCentsThanParties() {
        Check.says("if it cannot be divided, .. as many as cents are left over");
        // 7 cents less 6 are one cent for six parties.
        SharedTaxis x = together(6, "tariff 0 1;discount 4 90;");
        x.advance(60);
        for (int i = 0; i < 6; i++) {
            Check.due("paid by " + i, x.ride(i, 12), i == 5 ? 1 : 0);
        }
        SharedTaxis y = together(6, "tariff 0 0;");
        y.advance(60);
        for (int i = 0; i < 6; i++) {
            Check.due("paid by " + i, y.ride(i, 12), 0);
        }
    }

    private static void orderAboard() {
        Check.says("in the order in which they came aboard");
        SharedTaxis x = Check.desk("zones 3;road 0 1 10;road 1 2 5;taxi 4 0 0 999;tariff 0 1;rule wait 60;");
        Check.book(x, 1, 2, 1, 15, 200);
        Check.book(x, 0, 2, 1, 0, 200);
        Check.dueText("format", Check.format(x, 0), "+1@0 +0@1 -1@2 -0@2");
        x.advance(60);
        Check.due("paid by the first one", x.ride(1, 12), 10 + 3);
        Check.due("paid by the second one", x.ride(0, 12), 2);
    }

    private static void orderBehindDrop() {
        Check.says("each of the first parties, in the order in which they came aboard");
        SharedTaxis x = Check.desk("zones 3;road 0 1 10;road 1 2 5;taxi 4 0 0 999;tariff 0 1;rule dwell 0;");
        Check.book(x, 0, 2, 1, 0, 200);
        Check.book(x, 0, 2, 1, 0, 200);
        Check.book(x, 0, 1, 2, 0, 200);
        Check.dueText("format", Check.format(x, 0), "+2@0 +1@0 +0@0 -2@1 -1@2 -0@2");
        x.advance(15);
        // 10 cents are 4, 3 and 3; behind the drop of the first one 5 cents are 3 and 2.
        Check.due("paid", x.ride(2, 12), 4);
        Check.due("paid", x.ride(1, 12), 3 + 3);
        Check.due("paid", x.ride(0, 12), 3 + 2);
    }

    private static void aboardOnTheWay() {
        Check.says("(A party that leaves at a drop has been aboard on the way to it; one that comes aboard at a pickup has not.)");
        SharedTaxis x = Check.desk(TOWN);
        Check.book(x, 0, 2, 1, 0, 100);
        Check.book(x, 1, 2, 2, 0, 100);
        Check.dueText("format", Check.format(x, 0), "+0@0 +1@1 -1@2 -0@2");
        x.advance(12);
        Check.due("paid", x.ride(0, 12), 100 + 200);
        Check.due("paid by the one that came aboard", x.ride(1, 12), 100);
        Check.dueText("account", Check.account(x, 0), "400 0 10 10 0 200");
        x.advance(6);
        Check.due("paid", x.ride(0, 12), 300 + 38);
        Check.due("paid by the one that left", x.ride(1, 12), 100 + 37);
        Check.dueText("account", Check.account(x, 0), "475 0 15 15 5 275");
    }

    private static void noWayMinutes() {
        Check.says("the way of m minutes to it is paid for; (0 for a zone and itself)");
        SharedTaxis x = Check.desk(TOWN);
        Check.book(x, 0, 1, 1, 0, 200);
        Check.book(x, 0, 1, 1, 0, 200);
        x.advance(13);
        Check.due("stops", x.taxi(0, 5), 1);
        Check.due("paid", x.ride(0, 12), 175);
        x.advance(1);
        Check.due("paid", x.ride(0, 12), 175);
        Check.due("amounts", x.account(0, 5), 150);
    }

    private static void absentNotAboard() {
        Check.says("A party that is told to be absent does not come aboard; when its pickup is done, the ride ends as a no-show");
        SharedTaxis x = Check.desk(TOWN + "rule fee 70;");
        Check.book(x, 0, 2, 1, 0, 100);
        Check.book(x, 1, 2, 2, 0, 100);
        x.absent(1);
        Check.due("advance", x.advance(13), 1);
        Check.due("state", x.ride(1, 0), 1);
        Check.due("charged", x.ride(1, 12), 0);
        Check.due("advance", x.advance(1), 1);
        Check.due("state", x.ride(1, 0), 5);
        Check.due("pickup done", x.ride(1, 10), 14);
        Check.due("charged", x.ride(1, 12), 70);
        Check.due("parties aboard", x.taxi(0, 7), 1);
        Check.due("persons aboard", x.taxi(0, 6), 1);
        x.advance(10);
        // No flag, and no share for the one that was not there.
        Check.due("paid", x.ride(0, 12), 400);
        Check.dueText("account", Check.account(x, 0), "470 0 15 15 0 300");
    }

    private static void feeAtThatTime() {
        Check.says("the party is charged 'fee', as this rule is at that time");
        SharedTaxis x = Check.desk(TOWN + "rule fee 70;");
        Check.book(x, 0, 1, 1, 0, 0);
        x.setRule(4, 80);
        x.absent(0);
        x.setRule(4, 90);
        x.advance(3);
        x.setRule(4, 60);
        Check.due("charged", x.ride(0, 12), 90);
        x.advance(5);
        Check.due("charged", x.ride(0, 12), 90);
        Check.due("takings", x.account(0, 0), 90);
    }

    private static void feeRange() {
        Check.says("'fee' (0 to 9999; 0 at first)");
        for (int fee : new int[] {-1, 0, 9999}) {
            SharedTaxis x = Check.desk(TOWN + (fee < 0 ? "" : "rule fee " + fee + ";"));
            Check.book(x, 0, 1, 1, 0, 0);
            x.absent(0);
            x.advance(3);
            Check.due("state", x.ride(0, 0), 5);
            Check.due("charged", x.ride(0, 12), Math.max(fee, 0));
        }
    }

    private static void takings() {
        Check.says("The takings of a taxi are all that parties paid and were charged in it, and tips");
        SharedTaxis x = twoZones("taxi 1 0 0 999;taxi 1 0 0 999;tariff 5 1;rule fee 1000;");
        Check.due("takings", x.account(0, 0), 0);
        Check.book(x, 0, 1, 1, 0, 0);
        Check.book(x, 0, 1, 1, 0, 0);
        x.absent(0);
        x.tip(0, 20000);
        x.advance(50);
        Check.due("takings", x.account(0, 0), 21000);
        Check.due("takings", x.account(1, 0), 15);
        Check.due("tips", x.account(0, 1), 20000);
        Check.due("tips", x.account(1, 1), 0);
    }

    /** Six parties aboard are six again behind a snapshot, though six others were there meanwhile. */
    private static void sixPartiesAboard() {
        Check.says("seats (1 to 6); persons (1 to 6)");
        SharedTaxis x = together(6, "tariff 0 6;");
        x.saveSnapshot();
        String before = Check.everything(x);
        Check.due("advance", x.advance(20), 6);
        for (int i = 0; i < 6; i++) {
            Check.book(x, 1, 0, 1, 0, 200);
        }
        x.advance(6);
        Check.due("parties aboard", x.taxi(0, 7), 6);
        x.restoreSnapshot();
        Check.dueText("everything", Check.everything(x), before);
        Check.due("advance", x.advance(8), 1);
        Check.due("parties aboard", x.taxi(0, 7), 5);
        Check.due("advance", x.advance(12), 5);
        Check.due("parties aboard", x.taxi(0, 7), 0);
        for (int i = 0; i < 6; i++) {
            Check.due("paid", x.ride(i, 12), 7);
        }
    }

    // ---- 5. Rides

    private static void atMostRides() {
        Check.says("There are at most 24 rides");
        SharedTaxis x = twoZones("taxi 1 0 0 99;");
        for (int i = 0; i < 24; i++) {
            Check.due("ask", x.ask(0, 1, 1, 0, 0), i);
            Check.due("rides", x.size(3), i + 1);
        }
        String before = Check.everything(x);
        Check.due("ask", x.ask(0, 1, 1, 0, 0), -2);
        Check.dueText("everything", Check.everything(x), before);
        Check.noSuch("ride", () -> x.ride(24, 0));
    }

    private static void ridesInOrder() {
        Check.says("numbered from 0 in the order in which they were asked for");
        SharedTaxis x = twoZones("taxi 1 0 0 99;");
        Check.noSuch("ride", () -> x.ride(0, 0));
        for (int i = 0; i < 24; i++) {
            x.ask(0, 1, 1, i, 0);
        }
        for (int i = 0; i < 24; i++) {
            Check.due("ready", x.ride(i, 4), i);
        }
        // Refused, declined and cancelled rides keep their numbers.
        SharedTaxis y = twoZones("taxi 1 0 0 99;");
        y.ask(0, 1, 2, 0, 0);
        y.ask(0, 1, 1, 0, 0);
        y.decline(1);
        y.cancel(Check.book(y, 0, 1, 1, 0, 0));
        Check.due("ask", y.ask(0, 1, 1, 0, 0), 3);
    }

    private static void everyState() {
        Check.says("0 offered, 1 booked, 2 aboard, 3 done, 4 refused, expired or declined, 5 a no-show, 6 cancelled");
        SharedTaxis x = twoZones("taxi 1 0 0 999;");
        x.ask(0, 1, 1, 0, 0);
        Check.due("offered", x.ride(0, 0), 0);
        x.accept(0);
        Check.due("booked", x.ride(0, 0), 1);
        x.cancel(0);
        Check.due("cancelled", x.ride(0, 0), 6);
        x.undo();
        x.absent(0);
        Check.due("absent, but booked", x.ride(0, 0), 1);
        x.advance(3);
        Check.due("a no-show", x.ride(0, 0), 5);
        x.undo();
        x.undo();
        x.advance(1);
        Check.due("aboard", x.ride(0, 0), 2);
        x.advance(10);
        Check.due("aboard", x.ride(0, 0), 2);
        x.advance(1);
        Check.due("done", x.ride(0, 0), 3);
        x.ask(0, 1, 2, 0, 0);
        Check.due("refused", x.ride(1, 0), 4);
        x.ask(1, 0, 1, 0, 0);
        x.decline(2);
        Check.due("declined", x.ride(2, 0), 4);
        x.ask(1, 0, 1, 0, 0);
        x.advance(6);
        Check.due("expired", x.ride(3, 0), 4);
    }

    /** Ride 23 is offered taxi 3; rides 0 to 21 are refused, ride 22 is booked in that taxi. */
    private static SharedTaxis fullDesk() {
        SharedTaxis x = twoZones("taxi 1 1 0 999;taxi 1 1 0 999;taxi 1 1 0 999;taxi 6 0 0 999;tariff 100 20;"
            + "discount 2 25;rule wait 5;");
        for (int i = 0; i < 22; i++) {
            Check.due("ask", x.ask(1, 0, 6, 0, 0), i);
            Check.due("state", x.ride(i, 0), 4);
        }
        Check.due("accept", x.accept(x.ask(0, 1, 1, 0, 100)), 0);
        Check.due("ask", x.ask(0, 1, 1, 0, 100), 23);
        return x;
    }

    private static void lastRideIsOffered() {
        Check.says("at most 24 rides; at most 4 taxis");
        SharedTaxis x = fullDesk();
        Check.dueText("offer", Check.offer(x, 23), "3 0 0 12 5");
        Check.due("extra", x.extra(23, 3), 0);
        Check.due("extra", x.extra(23, 0), -1);
        Check.due("open offers", x.size(5), 1);
        Check.due("offered", x.rides(0), 1);
        Check.due("refused", x.rides(4), 22);
        Check.answers(x, "first state=0", 23);
        String before = Check.everything(x);
        Check.due("decline", x.decline(23), 0);
        Check.due("state", x.ride(23, 0), 4);
        x.undo();
        Check.dueText("everything", Check.everything(x), before);
        x.saveSnapshot();
        Check.due("accept", x.accept(23), 0);
        x.restoreSnapshot();
        Check.dueText("everything", Check.everything(x), before);
    }

    private static void lastRideIsBooked() {
        Check.says("at most 24 rides; at most 4 taxis");
        SharedTaxis x = fullDesk();
        Check.due("accept", x.accept(23), 0);
        Check.due("stops in all routes", x.size(6), 4);
        Check.dueText("format", Check.format(x, 3), "+23@0 +22@0 -23@1 -22@1");
        Check.dueText("times", Check.times(x, 3), "0/0/1 1/1/2 2/12/13 13/13/14");
        Check.due("keeps", x.keeps(3) ? 1 : 0, 1);
        Check.due("fare", x.fare(23), 175);
        Check.answers(x, "many taxi=4", 2);
        String before = Check.everything(x);
        Check.due("cancel", x.cancel(23), 2);
        Check.dueText("format", Check.format(x, 3), "+22@0 -22@1");
        x.undo();
        Check.due("absent", x.absent(23), 3);
        Check.due("advance", x.advance(3), 1);
        Check.due("no-show", x.ride(23, 0), 5);
        x.undo();
        x.undo();
        Check.dueText("everything", Check.everything(x), before);
    }

    private static void lastRideIsDone() {
        Check.says("at most 24 rides; at most 4 taxis");
        SharedTaxis x = fullDesk();
        x.accept(23);
        String before = Check.everything(x);
        Check.due("advance", x.advance(20), 4);
        Check.dueText("ride", Check.ride(x, 23), "3 0 1 1 0 5 100 10 20 3 1 12 175 0");
        Check.dueNumber("meanFare", x.meanFare(), 175.0);
        Check.dueNumber("sharedPart", x.sharedPart(), 1.0f);
        Check.due("done", x.rides(3), 2);
        Check.answers(x, "many fare=175", 2);
        x.undo();
        Check.dueText("everything", Check.everything(x), before);
    }

    private static void lastRideExpires() {
        Check.says("at most 24 rides; behind that it is expired");
        SharedTaxis x = fullDesk();
        x.advance(5);
        Check.due("state", x.ride(23, 0), 0);
        x.advance(1);
        Check.due("state", x.ride(23, 0), 4);
        Check.due("open offers", x.size(5), 0);
    }
}
