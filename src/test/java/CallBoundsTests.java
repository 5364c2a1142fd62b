/** Promises 1 to 20 and 31 to 36 of the document: a test for each sentence that names a bound of these calls. */
public final class CallBoundsTests {
    private static final String TOWN = "zones 4;road 0 1 10;road 1 2 5;road 0 2 20;taxi 4 0 0 1000;"
        + "tariff 100 20;discount 2 25;rule fee 70;";

    public static void main(String[] args) {
        manyCalls();
        constants();
        newObject();
        feedOrder();
        feedExceeds();
        loadLength();
        loadFirstBytes();
        loadEmptiesBuffer();
        loadReplaces();
        loadDiscards();
        loadCountsTaxis();
        loadErrorChangesNothing();
        errorPositionAtFirst();
        errorPositionOfReading();
        sizes();
        sizeRange();
        ruleRange();
        minutesRange();
        minutesNone();
        taxiRange();
        taxiNotLeft();
        accountRange();
        accountOfDoneStops();
        accountOfTwoParties();
        stopRange();
        rideRange();
        rideWithoutWay();
        rideNeverBooked();
        rideTimes();
        rideAbsent();
        offerRange();
        offerNotOpen();
        offerAsItWas();
        extraRange();
        extraNone();
        fareRange();
        fareNone();
        aloneFareRange();
        aloneFareNone();
        keepsRange();
        routeMinutes();
        ridesRange();
        meanFareOfNone();
        meanFareAsDouble();
        sharedPartOfNone();
        sharedPartAsFloat();
        formatRange();
        formatNoStop();
        formatNumbers();
        formattedByteRange();
        formattedByteAtFirst();
        formattedByteAsItWas();
        Check.end();
    }

    private static SharedTaxis twoZones(String more) {
        return Check.desk("zones 2;road 0 1 10;" + more);
    }

    private static void manyCalls() {
        Check.says("An object is used for at most 512 calls after it has been made");
        SharedTaxis x = new SharedTaxis();
        for (int i = 0; i < 500; i++) {
            Check.due("setRate", x.setRate(i + 1), i);
        }
        for (int i = 9; i >= 0; i--) {
            Check.due("undo", x.undo(), i);
        }
        Check.due("undo", x.undo(), -1);
        Check.due("rate", x.size(8), 490);
    }

    private static void constants() {
        Check.says("NONE = -1: There is no such value; HIDDEN = -1000000000");
        Check.due("NONE", SharedTaxis.NONE, -1);
        Check.due("HIDDEN", SharedTaxis.HIDDEN, -1000000000);
    }

    // Promise 1
    private static void newObject() {
        Check.says("Creates a desk as by the text \"zones 2;\"");
        SharedTaxis x = new SharedTaxis();
        Check.dueText("everything", Check.everything(x), Check.everything(Check.desk("zones 2;")));
        Check.dueText("everything", Check.everything(x), "2 0 0 0 0 0 0 0 0 15 1 5 3 0 240 30 0 0 0 ");
        Check.due("minutes", x.minutes(0, 1), -1);
        Check.due("minutes", x.minutes(1, 1), 0);
        Check.noSuch("minutes", () -> x.minutes(2, 0));
        Check.due("undoCount", x.undoCount(), 0);
        Check.due("restoreSnapshot", x.restoreSnapshot() ? 1 : 0, 0);
        Check.illegal("load", () -> x.load(1));
        // One object knows nothing of another.
        SharedTaxis y = new SharedTaxis();
        y.setRate(5);
        Check.due("rate", x.size(8), 0);
    }

    // Promise 2
    private static void feedOrder() {
        Check.says("Appends 20 bytes to the buffer: the four bytes of each parameter, the most significant byte first");
        SharedTaxis x = new SharedTaxis();
        Check.due("feed", x.feed(0x7a6f6e65, 0x7320323b, 0x72756c65, 0x20776169, 0x7420373b), 20);
        Check.due("load", x.load(20), 0);
        Check.due("wait", x.rule(0), 7);
        // Each byte of each parameter in its turn is the first that is wrong, and greater than 127.
        for (int at = 0; at < 20; at++) {
            int[] words = {0x20202020, 0x20202020, 0x20202020, 0x20202020, 0x20202020};
            words[at / 4] ^= 0xff << 24 - at % 4 * 8;
            x.feed(words[0], words[1], words[2], words[3], words[4]);
            Check.due("load", x.load(20), -11);
            Check.due("errorPosition", x.errorPosition(), at);
        }
    }

    private static void feedExceeds() {
        Check.says("NONE if it would exceed 800, and then nothing is appended");
        SharedTaxis x = new SharedTaxis();
        for (int i = 1; i <= 40; i++) {
            Check.due("feed", x.feed(0x20202020, 0x20202020, 0x20202020, 0x20202020, 0x20202020), 20 * i);
        }
        for (int i = 0; i < 3; i++) {
            Check.due("feed", x.feed(0x41414141, 0x41414141, 0x41414141, 0x41414141, 0x41414141), -1);
        }
        Check.illegal("load", () -> x.load(801));
        Check.due("load", x.load(800), -11);
        Check.due("errorPosition", x.errorPosition(), 800);
        Check.due("feed", x.feed(0, 0, 0, 0, 0), 20);
    }

    // Promise 3
    private static void loadLength() {
        Check.says("Throws IllegalArgumentException if length is negative or greater than the number of bytes in the buffer");
        SharedTaxis x = Check.desk(TOWN);
        Check.illegal("load", () -> x.load(1));
        Check.illegal("load", () -> x.load(-1));
        Check.feed(x, "zones 3;");
        for (int length : new int[] {-1, 21, 800, 801, Integer.MIN_VALUE, Integer.MAX_VALUE}) {
            Check.changesNothing("load(" + length + ")", x, () -> x.load(length));
            Check.illegal("load", () -> x.load(length));
        }
        Check.due("the buffer is as it was", x.feed(0x20202020, 0x20202020, 0x20202020, 0x20202020, 0x20202020), 40);
        Check.due("load", x.load(40), 0);
        Check.due("zones", x.size(0), 3);
        Check.due("load", x.load(0), -11);
        Check.due("errorPosition", x.errorPosition(), 0);
    }

    private static void loadFirstBytes() {
        Check.says("Reads the first bytes of the buffer as a text");
        SharedTaxis x = new SharedTaxis();
        Check.feed(x, "zones 3;zones 4; ???");
        Check.due("load", x.load(8), 0);
        Check.due("zones", x.size(0), 3);
        Check.feed(x, "zones 23;");
        Check.due("load", x.load(7), -11);
        Check.due("errorPosition", x.errorPosition(), 7);
    }

    private static void loadEmptiesBuffer() {
        Check.says("The buffer is empty afterwards, also after an error");
        SharedTaxis x = new SharedTaxis();
        Check.feed(x, "zones 3;zones 4;");
        x.load(8);
        Check.illegal("load", () -> x.load(1));
        Check.due("feed", x.feed(0, 0, 0, 0, 0), 20);
        Check.due("load", x.load(20), -11);
        Check.illegal("load", () -> x.load(1));
        Check.due("feed", x.feed(0, 0, 0, 0, 0), 20);
    }

    private static void loadReplaces() {
        Check.says("which replaces everything (the present time is 0, there are no rides)");
        SharedTaxis x = Check.eightRides();
        x.setRule(9, 5);
        Check.due("load", Check.load(x, "zones 4;taxi 4 3 7 9;"), 1);
        Check.dueText("everything", Check.everything(x), Check.everything(Check.desk("zones 4;taxi 4 3 7 9;")));
        Check.due("now", x.size(4), 0);
        Check.due("rides", x.size(3), 0);
        Check.due("roads", x.size(1), 0);
        Check.due("minutes", x.minutes(0, 1), -1);
        Check.noSuch("ride", () -> x.ride(0, 0));
        Check.due("meanFare", (long) x.meanFare(), 0);
        Check.due("ask", x.ask(0, 1, 1, 0, 0), 0);
    }

    private static void loadDiscards() {
        Check.says("the undo history and the snapshot are discarded");
        SharedTaxis x = Check.eightRides();
        x.saveSnapshot();
        Check.load(x, "zones 2;");
        Check.due("undoCount", x.undoCount(), 0);
        Check.due("undo", x.undo(), -1);
        Check.due("restoreSnapshot", x.restoreSnapshot() ? 1 : 0, 0);
        Check.due("zones", x.size(0), 2);
    }

    private static void loadCountsTaxis() {
        Check.says("Returns the number of taxis");
        StringBuilder text = new StringBuilder("zones 2;");
        for (int taxis = 0; taxis <= 4; taxis++) {
            Check.due("load", Check.load(new SharedTaxis(), text.toString()), taxis);
            text.append("taxi 1 0 0 9;");
        }
    }

    private static void loadErrorChangesNothing() {
        Check.says("-10 minus the error code if the text has an error (then only the buffer and the error position change)");
        SharedTaxis x = Check.eightRides();
        x.saveSnapshot();
        x.setRate(9);
        x.format(0);
        String before = Check.everything(x);
        int undo = x.undoCount();
        String town = "zones 2;road 0 1 3;taxi 1 0 0 9;tariff 1 1;discount 4 9;rule wait 9;";
        String[] texts = {"", "zones", "zones 9;", town + "?", town + "rule wait 99;", town + "road 1 0 5;",
            town + "taxi 1 0 0 9;taxi 1 0 0 9;taxi 1 0 0 9;taxi 1 0 0 9;"};
        int[] due = {-11, -11, -12, -11, -12, -14, -13};
        for (int i = 0; i < texts.length; i++) {
            Check.due("load(" + texts[i] + ")", Check.load(x, texts[i]), due[i]);
            Check.dueText("everything", Check.everything(x), before);
            Check.due("minutes", x.minutes(0, 1), 10);
            Check.due("undoCount", x.undoCount(), undo);
        }
        Check.due("formattedByte", x.formattedByte(0), '-');
        x.undo();
        Check.due("rate", x.size(8), 20);
        Check.due("restoreSnapshot", x.restoreSnapshot() ? 1 : 0, 1);
    }

    // Promise 4
    private static void errorPositionAtFirst() {
        Check.says("NONE if that call had no error, or there was no such call");
        SharedTaxis x = new SharedTaxis();
        Check.due("errorPosition", x.errorPosition(), -1);
        Check.illegal("load", () -> x.load(1));
        Check.illegal("query", () -> x.query(-1));
        Check.due("errorPosition", x.errorPosition(), -1);
        Check.load(x, "zones 2");
        Check.due("errorPosition", x.errorPosition(), 7);
        Check.load(x, "zones 2;");
        Check.due("errorPosition", x.errorPosition(), -1);
        Check.query(x, "many");
        Check.due("errorPosition", x.errorPosition(), 4);
        Check.query(x, "many 1=1");
        Check.due("errorPosition", x.errorPosition(), -1);
        Check.query(x, "?");
        Check.due("errorPosition", x.errorPosition(), 0);
    }

    private static void errorPositionOfReading() {
        Check.says("the most recent call of load or query that read the buffer");
        SharedTaxis x = new SharedTaxis();
        Check.load(x, "zones 9;");
        Check.illegal("load", () -> x.load(1));
        Check.illegal("load", () -> x.load(-1));
        Check.illegal("query", () -> x.query(201));
        x.saveSnapshot();
        x.setRate(1);
        x.undo();
        x.restoreSnapshot();
        Check.due("errorPosition", x.errorPosition(), 6);
    }

    // Promise 5
    private static void sizes() {
        Check.says("0 zones, 1 roads, 2 taxis, 3 rides, 4 the present time, 5 open offers, 6 stops in all routes, 7 the flag, "
            + "8 the rate");
        SharedTaxis x = Check.eightRides();
        int[] due = {4, 3, 1, 8, 16, 1, 3, 100, 20};
        for (int what = 0; what < due.length; what++) {
            Check.due("size " + what, x.size(what), due[what]);
        }
    }

    private static void sizeRange() {
        Check.says("Throws NoSuchElementException if what is out of range");
        SharedTaxis x = Check.eightRides();
        for (int what : new int[] {-1, 9, Integer.MIN_VALUE, Integer.MAX_VALUE}) {
            Check.noSuch("size", () -> x.size(what));
        }
    }

    // Promise 6
    private static void ruleRange() {
        Check.says("Throws NoSuchElementException if rule is out of range");
        SharedTaxis x = new SharedTaxis();
        for (int rule : new int[] {-1, 10, Integer.MIN_VALUE, Integer.MAX_VALUE}) {
            Check.noSuch("rule", () -> x.rule(rule));
        }
        Check.due("the first rule", x.rule(0), 15);
        Check.due("the last rule", x.rule(9), 0);
    }

    // Promise 7
    private static void minutesRange() {
        Check.says("Throws NoSuchElementException if there is no such zone");
        for (int zones = 2; zones <= 8; zones++) {
            SharedTaxis x = Check.desk("zones " + zones + ";");
            for (int zone : new int[] {-1, zones, Integer.MIN_VALUE, Integer.MAX_VALUE}) {
                Check.noSuch("minutes", () -> x.minutes(zone, 0));
                Check.noSuch("minutes", () -> x.minutes(0, zone));
                Check.noSuch("minutes", () -> x.minutes(zone, zone));
            }
        }
    }

    private static void minutesNone() {
        Check.says("NONE if there is none");
        SharedTaxis x = Check.desk(TOWN);
        Check.due("minutes", x.minutes(0, 3), -1);
        Check.due("minutes", x.minutes(3, 0), -1);
        Check.due("minutes", x.minutes(3, 3), 0);
        Check.due("minutes", x.minutes(0, 2), 15);
    }

    // Promise 8
    private static void taxiRange() {
        Check.says("Throws NoSuchElementException if there is no such taxi or what is out of range");
        SharedTaxis x = twoZones("taxi 4 0 0 99;taxi 3 1 7 99;");
        for (int taxi : new int[] {-1, 2, 4, Integer.MIN_VALUE, Integer.MAX_VALUE}) {
            Check.noSuch("taxi", () -> x.taxi(taxi, 0));
        }
        for (int what : new int[] {-1, 10, Integer.MIN_VALUE, Integer.MAX_VALUE}) {
            Check.noSuch("taxi", () -> x.taxi(0, what));
        }
        Check.dueText("taxi", Check.taxi(x, 1), "3 1 7 7 99 0 0 0 0 -1");
        // A text with fewer taxis takes them away.
        Check.load(x, "zones 2;taxi 1 0 0 9;");
        Check.noSuch("taxi", () -> x.taxi(1, 0));
    }

    private static void taxiNotLeft() {
        Check.says("9 the time when it left for its first stop (NONE if it has not left for one)");
        SharedTaxis x = twoZones("taxi 4 0 0 99;");
        Check.due("left without a stop", x.taxi(0, 9), -1);
        Check.book(x, 0, 1, 1, 0, 0);
        Check.due("left", x.taxi(0, 9), -1);
        x.advance(2);
        Check.due("left", x.taxi(0, 9), 1);
        x.advance(10);
        Check.due("left behind the last stop", x.taxi(0, 9), -1);
        // It leaves at the time 0, which is a time, too.
        SharedTaxis y = twoZones("taxi 4 1 0 99;");
        Check.book(y, 0, 1, 1, 0, 0);
        y.advance(1);
        Check.due("left", y.taxi(0, 9), 0);
    }

    // Promise 9
    private static void accountRange() {
        Check.says("Throws NoSuchElementException if there is no such taxi or what is out of range");
        SharedTaxis x = twoZones("taxi 4 0 0 99;taxi 4 0 0 99;");
        for (int taxi : new int[] {-1, 2, Integer.MIN_VALUE, Integer.MAX_VALUE}) {
            Check.noSuch("account", () -> x.account(taxi, 0));
        }
        for (int what : new int[] {-1, 6, Integer.MIN_VALUE, Integer.MAX_VALUE}) {
            Check.noSuch("account", () -> x.account(0, what));
        }
        Check.dueText("account", Check.account(x, 1), "0 0 0 0 0 0");
    }

    private static void accountOfDoneStops() {
        Check.says("2 minutes driven (of ways whose stops are done, as in the following ones)");
        SharedTaxis x = Check.desk(TOWN);
        Check.book(x, 0, 2, 1, 0, 100);
        Check.book(x, 1, 2, 2, 0, 100);
        x.advance(11);
        Check.dueText("account", Check.account(x, 0), "100 0 0 0 0 0");
        x.advance(1);
        Check.dueText("account", Check.account(x, 0), "400 0 10 10 0 200");
        x.advance(5);
        Check.dueText("account", Check.account(x, 0), "400 0 10 10 0 200");
        x.advance(1);
        Check.dueText("account", Check.account(x, 0), "475 0 15 15 5 275");
    }

    private static void accountOfTwoParties() {
        Check.says("3 minutes driven with parties aboard, 4 minutes driven with at least two parties aboard");
        int[][] due = {{0, 0}, {10, 0}, {10, 10}, {10, 10}};
        for (int parties = 0; parties <= 3; parties++) {
            // One more is absent, so that the taxi drives to zone 1 in any case.
            SharedTaxis x = twoZones("taxi 4 0 0 999;rule wait 60;rule dwell 0;");
            for (int i = 0; i < parties; i++) {
                Check.book(x, 0, 1, 1, 0, 200);
            }
            x.absent(Check.book(x, 1, 0, 1, 5, 200));
            x.advance(99);
            Check.due("minutes driven", x.account(0, 2), 10);
            Check.due("with parties, of " + parties, x.account(0, 3), due[parties][0]);
            Check.due("with at least two parties, of " + parties, x.account(0, 4), due[parties][1]);
        }
    }

    // Promise 10
    private static void stopRange() {
        Check.says("Throws NoSuchElementException if there is no such taxi or stop, or what is out of range");
        SharedTaxis x = twoZones("taxi 4 0 0 99;taxi 4 0 0 99;");
        Check.noSuch("stop of an empty route", () -> x.stop(0, 0, 0));
        Check.book(x, 0, 1, 1, 0, 0);
        for (int taxi : new int[] {-1, 2, Integer.MIN_VALUE, Integer.MAX_VALUE}) {
            Check.noSuch("stop", () -> x.stop(taxi, 0, 0));
        }
        for (int index : new int[] {-1, 2, 12, Integer.MIN_VALUE, Integer.MAX_VALUE}) {
            Check.noSuch("stop", () -> x.stop(0, index, 0));
        }
        for (int what : new int[] {-1, 6, Integer.MIN_VALUE, Integer.MAX_VALUE}) {
            Check.noSuch("stop", () -> x.stop(0, 0, what));
        }
        Check.noSuch("stop of the other taxi", () -> x.stop(1, 0, 0));
        int[] pickup = {0, 1, 0, 0, 0, 1};
        int[] drop = {0, 0, 1, 1, 11, 12};
        for (int what = 0; what <= 5; what++) {
            Check.due("stop", x.stop(0, 0, what), pickup[what]);
            Check.due("stop", x.stop(0, 1, what), drop[what]);
        }
        x.advance(1);
        Check.noSuch("stop", () -> x.stop(0, 1, 0));
    }

    // Promise 11
    private static void rideRange() {
        Check.says("Throws NoSuchElementException if there is no such ride or what is out of range");
        SharedTaxis x = Check.eightRides();
        for (int ride : new int[] {-1, 8, 24, Integer.MIN_VALUE, Integer.MAX_VALUE}) {
            Check.noSuch("ride", () -> x.ride(ride, 0));
        }
        for (int what : new int[] {-1, 14, Integer.MIN_VALUE, Integer.MAX_VALUE}) {
            Check.noSuch("ride", () -> x.ride(0, what));
        }
        Check.noSuch("ride of a new desk", () -> new SharedTaxis().ride(0, 0));
    }

    private static void rideWithoutWay() {
        Check.says("7 its direct minutes (NONE without a way), 8 the most minutes aboard (NONE without a way)");
        SharedTaxis x = Check.desk(TOWN);
        for (int detour : new int[] {0, 100, 200}) {
            int ride = x.ask(0, 3, 1, 0, detour);
            Check.due("direct", x.ride(ride, 7), -1);
            Check.due("most", x.ride(ride, 8), -1);
            ride = x.ask(0, 2, 1, 0, detour);
            Check.due("direct", x.ride(ride, 7), 15);
            Check.due("most", x.ride(ride, 8), 15 + 15 * detour / 100);
        }
    }

    private static void rideNeverBooked() {
        Check.says("9 its taxi (NONE if it was never booked)");
        SharedTaxis x = Check.eightRides();
        int[] due = {0, 0, 0, 0, 0, -1, -1, -1};
        for (int ride = 0; ride < due.length; ride++) {
            Check.due("taxi of ride " + ride, x.ride(ride, 9), due[ride]);
        }
    }

    private static void rideTimes() {
        Check.says("10 the time when its pickup was done, 11 the time when the taxi arrived at its drop, told when its drop is "
            + "done (NONE each if that has not happened)");
        SharedTaxis x = Check.eightRides();
        int[] pickup = {1, 15, -1, 16, -1, -1, -1, -1};
        int[] drop = {11, -1, -1, -1, -1, -1, -1, -1};
        for (int ride = 0; ride < pickup.length; ride++) {
            Check.due("pickup of ride " + ride, x.ride(ride, 10), pickup[ride]);
            Check.due("drop of ride " + ride, x.ride(ride, 11), drop[ride]);
        }
        // It has arrived at 21, but the drop is done at 22.
        x.advance(5);
        Check.due("drop", x.ride(3, 11), -1);
        x.advance(1);
        Check.due("drop", x.ride(3, 11), 21);
    }

    private static void rideAbsent() {
        Check.says("13 1 if it is told to be absent, otherwise 0");
        SharedTaxis x = Check.eightRides();
        for (int ride = 0; ride < 8; ride++) {
            Check.due("absent " + ride, x.ride(ride, 13), ride == 1 ? 1 : 0);
        }
        x.absent(4);
        Check.due("absent", x.ride(4, 13), 1);
        x.undo();
        Check.due("absent", x.ride(4, 13), 0);
    }

    // Promise 12
    private static void offerRange() {
        Check.says("Throws NoSuchElementException if there is no such ride or what is out of range");
        SharedTaxis x = Check.eightRides();
        for (int ride : new int[] {-1, 8, 24, Integer.MIN_VALUE, Integer.MAX_VALUE}) {
            Check.noSuch("offer", () -> x.offer(ride, 0));
        }
        for (int what : new int[] {-1, 5, Integer.MIN_VALUE, Integer.MAX_VALUE}) {
            Check.noSuch("offer", () -> x.offer(5, what));
            Check.noSuch("offer that is not open", () -> x.offer(6, what));
        }
    }

    private static void offerNotOpen() {
        Check.says("NONE if the ride has no open offer");
        SharedTaxis x = Check.eightRides();
        for (int ride = 0; ride < 8; ride++) {
            Check.dueText("offer of ride " + ride, Check.offer(x, ride),
                ride == 5 ? "0 10 76 87 21" : "-1 -1 -1 -1 -1");
        }
        x.advance(5);
        Check.dueText("offer", Check.offer(x, 5), "0 10 76 87 21");
        x.advance(1);
        Check.dueText("expired offer", Check.offer(x, 5), "-1 -1 -1 -1 -1");
    }

    private static void offerAsItWas() {
        Check.says("as they were when it was made");
        SharedTaxis x = Check.desk(TOWN);
        x.ask(0, 1, 1, 0, 0);
        x.advance(4);
        x.setRule(1, 9);
        x.setRule(2, 60);
        x.setEnd(0, 5);
        Check.due("extra", x.extra(0, 0), -1);
        Check.dueText("offer", Check.offer(x, 0), "0 10 0 11 5");
    }

    // Promise 13
    private static void extraRange() {
        Check.says("Throws NoSuchElementException if there is no such ride or taxi");
        SharedTaxis x = Check.eightRides();
        for (int wrong : new int[] {-1, 8, Integer.MIN_VALUE, Integer.MAX_VALUE}) {
            Check.noSuch("extra", () -> x.extra(wrong, 0));
            Check.noSuch("extra", () -> x.extra(5, wrong));
            Check.noSuch("extra of a ride without an offer", () -> x.extra(6, wrong));
        }
        Check.noSuch("extra", () -> x.extra(5, 1));
    }

    private static void extraNone() {
        Check.says("NONE if there is no insertion, or no open offer");
        SharedTaxis x = Check.eightRides();
        for (int ride = 0; ride < 8; ride++) {
            Check.due("extra of ride " + ride, x.extra(ride, 0), ride == 5 ? 10 : -1);
        }
        SharedTaxis y = twoZones("taxi 4 0 0 99;taxi 1 0 0 99;taxi 4 0 0 99;");
        y.ask(0, 1, 2, 0, 0);
        Check.due("extra", y.extra(0, 0), 10);
        Check.due("extra of a taxi with too few seats", y.extra(0, 1), -1);
        Check.due("extra", y.extra(0, 2), 10);
    }

    // Promise 14
    private static void fareRange() {
        Check.says("Throws NoSuchElementException if there is no such ride");
        SharedTaxis x = Check.eightRides();
        for (int ride : new int[] {-1, 8, 24, Integer.MIN_VALUE, Integer.MAX_VALUE}) {
            Check.noSuch("fare", () -> x.fare(ride));
        }
    }

    private static void fareNone() {
        Check.says("NONE in other states, or if it is told to be absent");
        SharedTaxis x = Check.eightRides();
        int[] due = {-1, -1, -1, 200, 400, -1, -1, -1};
        for (int ride = 0; ride < due.length; ride++) {
            Check.due("fare of ride " + ride, x.fare(ride), due[ride]);
        }
        x.absent(4);
        Check.due("fare of an absent one", x.fare(4), -1);
    }

    // Promise 15
    private static void aloneFareRange() {
        Check.says("Throws NoSuchElementException if there is no such zone");
        SharedTaxis x = Check.desk(TOWN);
        for (int zone : new int[] {-1, 4, 8, Integer.MIN_VALUE, Integer.MAX_VALUE}) {
            Check.noSuch("aloneFare", () -> x.aloneFare(zone, 0));
            Check.noSuch("aloneFare", () -> x.aloneFare(0, zone));
        }
    }

    private static void aloneFareNone() {
        Check.says("the flag plus the direct minutes * rate; NONE without a way");
        SharedTaxis x = Check.desk(TOWN);
        Check.due("aloneFare", x.aloneFare(0, 3), -1);
        Check.due("aloneFare", x.aloneFare(3, 0), -1);
        Check.due("aloneFare", x.aloneFare(3, 3), 100);
        Check.due("aloneFare", x.aloneFare(0, 2), 400);
        SharedTaxis y = Check.desk("zones 2;road 0 1 99;tariff 9999 999;");
        Check.due("aloneFare", y.aloneFare(1, 0), 108900);
        Check.due("aloneFare", y.aloneFare(0, 0), 9999);
        Check.due("aloneFare", new SharedTaxis().aloneFare(0, 0), 0);
        Check.due("aloneFare", new SharedTaxis().aloneFare(0, 1), -1);
    }

    // Promise 16
    private static void keepsRange() {
        Check.says("Throws NoSuchElementException if there is no such taxi");
        SharedTaxis x = twoZones("taxi 4 0 0 99;taxi 4 0 0 99;");
        for (int taxi : new int[] {-1, 2, 4, Integer.MIN_VALUE, Integer.MAX_VALUE}) {
            Check.noSuch("keeps", () -> x.keeps(taxi));
            Check.noSuch("routeMinutes", () -> x.routeMinutes(taxi));
        }
        Check.due("keeps", x.keeps(1) ? 1 : 0, 1);
    }

    // Promise 17
    private static void routeMinutes() {
        Check.says("Returns the minutes of all ways in the route of a taxi (that on which it is, too)");
        SharedTaxis x = twoZones("taxi 4 0 0 99;");
        Check.due("routeMinutes of no way", x.routeMinutes(0), 0);
        Check.book(x, 1, 0, 1, 0, 0);
        Check.due("routeMinutes", x.routeMinutes(0), 20);
        x.advance(10);
        Check.due("routeMinutes", x.routeMinutes(0), 20);
        x.advance(1);
        Check.due("routeMinutes", x.routeMinutes(0), 10);
        x.advance(11);
        Check.due("routeMinutes", x.routeMinutes(0), 0);
    }

    // Promise 18
    private static void ridesRange() {
        Check.says("Throws IllegalArgumentException if state is not 0 to 6");
        SharedTaxis x = Check.eightRides();
        int[] due = {1, 1, 1, 1, 2, 1, 1};
        for (int state = 0; state <= 6; state++) {
            Check.due("rides", x.rides(state), due[state]);
        }
        for (int state : new int[] {-1, 7, Integer.MIN_VALUE, Integer.MAX_VALUE}) {
            Check.illegal("rides", () -> x.rides(state));
        }
    }

    // Promise 19
    private static void meanFareOfNone() {
        Check.says("0 if there are none");
        Check.dueNumber("meanFare", new SharedTaxis().meanFare(), 0.0);
        SharedTaxis x = Check.desk(TOWN);
        Check.book(x, 0, 1, 1, 0, 0);
        x.advance(11);
        Check.due("aboard", x.ride(0, 0), 2);
        Check.dueNumber("meanFare", x.meanFare(), 0.0);
        x.advance(1);
        Check.dueNumber("meanFare", x.meanFare(), 300.0);
        // A no-show is charged, but it is not done.
        x.absent(Check.book(x, 1, 2, 1, 0, 0));
        x.advance(3);
        Check.due("charged", x.ride(1, 12), 70);
        Check.dueNumber("meanFare", x.meanFare(), 300.0);
    }

    private static void meanFareAsDouble() {
        Check.says("as doubles (their sum and number converted, then divided)");
        SharedTaxis x = twoZones("taxi 6 0 0 999;tariff 0 1;rule wait 60;");
        for (int i = 0; i < 3; i++) {
            Check.book(x, 0, 1, 1, 0, 200);
        }
        x.advance(60);
        Check.dueNumber("meanFare", x.meanFare(), 10.0 / 3.0);
        SharedTaxis y = Check.desk("zones 2;road 0 1 99;taxi 6 0 0 2879;tariff 9999 999;");
        Check.book(y, 0, 1, 1, 0, 0);
        y.advance(200);
        Check.dueNumber("meanFare", y.meanFare(), 108900.0);
    }

    // Promise 20
    private static void sharedPartOfNone() {
        Check.says("0 if there are none");
        Check.dueNumber("sharedPart", new SharedTaxis().sharedPart(), 0.0f);
        SharedTaxis x = twoZones("taxi 4 1 0 999;");
        Check.book(x, 0, 1, 1, 0, 0);
        x.advance(11);
        Check.due("minutes driven", x.account(0, 2), 10);
        Check.dueNumber("sharedPart", x.sharedPart(), 0.0f);
        x.advance(11);
        Check.due("minutes driven with a party", x.account(0, 3), 10);
        Check.dueNumber("sharedPart", x.sharedPart(), 0.0f);
    }

    private static void sharedPartAsFloat() {
        Check.says("as floats (both converted to float, then divided)");
        SharedTaxis x = Check.desk("zones 3;road 0 1 2;road 1 2 1;taxi 4 0 0 1000;taxi 4 0 0 1000;rule wait 60;");
        Check.book(x, 0, 2, 1, 0, 200);
        Check.book(x, 1, 2, 1, 0, 200);
        x.advance(60);
        Check.dueText("account", Check.account(x, 0), "0 0 3 3 1 0");
        Check.dueNumber("sharedPart", x.sharedPart(), 1.0f / 3.0f);
        // Those of all taxis count: two minutes more with a party in the other one.
        Check.book(x, 0, 1, 1, 0, 0);
        x.advance(60);
        Check.due("taxi", x.ride(2, 9), 1);
        Check.dueNumber("sharedPart", x.sharedPart(), 1.0f / 5.0f);
    }

    // Promise 31
    private static void formatRange() {
        Check.says("Throws NoSuchElementException if there is no such taxi");
        SharedTaxis x = twoZones("taxi 4 0 0 99;taxi 4 0 0 99;");
        x.format(1);
        for (int taxi : new int[] {-1, 2, 4, Integer.MIN_VALUE, Integer.MAX_VALUE}) {
            Check.noSuch("format", () -> x.format(taxi));
        }
        Check.due("formattedByte", x.formattedByte(0), '.');
        Check.due("formattedByte", x.formattedByte(1), -1);
    }

    private static void formatNoStop() {
        Check.says("'.' if there is none");
        SharedTaxis x = twoZones("taxi 4 0 0 99;");
        Check.due("format", x.format(0), 1);
        Check.dueText("format", Check.format(x, 0), ".");
        Check.book(x, 0, 1, 1, 0, 0);
        Check.due("format", x.format(0), 9);
        x.advance(50);
        Check.dueText("format", Check.format(x, 0), ".");
    }

    private static void formatNumbers() {
        Check.says("'+' for a pickup or '-' for a drop, the number of its ride, '@' and its zone, with a blank between two stops");
        for (int first : new int[] {0, 8, 9, 10, 18, 19, 22}) {
            SharedTaxis x = Check.desk("zones 8;road 0 7 1;taxi 6 0 0 999;rule wait 60;");
            for (int i = 0; i < first; i++) {
                x.ask(1, 2, 1, 0, 0);
            }
            Check.book(x, 0, 7, 1, 0, 200);
            int last = Check.book(x, 7, 0, 1, 30, 200);
            Check.dueText("format", Check.format(x, 0),
                "+" + first + "@0 -" + first + "@7 +" + last + "@7 -" + last + "@0");
        }
    }

    // Promise 32
    private static void formattedByteRange() {
        Check.says("NONE if index is out of range");
        SharedTaxis x = twoZones("taxi 4 0 0 99;");
        Check.book(x, 0, 1, 1, 0, 0);
        int length = x.format(0);
        Check.due("formattedByte", x.formattedByte(-1), -1);
        Check.due("formattedByte", x.formattedByte(0), '+');
        Check.due("formattedByte", x.formattedByte(length - 1), '1');
        Check.due("formattedByte", x.formattedByte(length), -1);
        Check.due("formattedByte", x.formattedByte(Integer.MIN_VALUE), -1);
        Check.due("formattedByte", x.formattedByte(Integer.MAX_VALUE), -1);
        // A shorter text behind a longer one.
        x.cancel(0);
        x.format(0);
        Check.due("formattedByte", x.formattedByte(0), '.');
        Check.due("formattedByte", x.formattedByte(1), -1);
    }

    private static void formattedByteAtFirst() {
        Check.says("or there was no such call");
        SharedTaxis x = twoZones("taxi 4 0 0 99;");
        Check.due("formattedByte", x.formattedByte(0), -1);
        Check.noSuch("format", () -> x.format(1));
        Check.due("formattedByte", x.formattedByte(0), -1);
    }

    private static void formattedByteAsItWas() {
        Check.says("as it was then (also behind load, undo and restoreSnapshot)");
        SharedTaxis x = twoZones("taxi 4 0 0 99;");
        x.saveSnapshot();
        Check.book(x, 0, 1, 1, 0, 0);
        x.format(0);
        x.advance(1);
        Check.due("behind advance", x.formattedByte(0), '+');
        x.undo();
        x.undo();
        Check.due("behind undo", x.formattedByte(0), '+');
        x.restoreSnapshot();
        Check.due("behind restoreSnapshot", x.formattedByte(0), '+');
        Check.load(x, "zones 2;");
        Check.due("behind load", x.formattedByte(0), '+');
        Check.query(x, "many 1=1");
        Check.due("behind query", x.formattedByte(8), '1');
        Check.due("behind query", x.formattedByte(9), -1);
    }
}
