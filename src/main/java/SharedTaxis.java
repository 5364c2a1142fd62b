import java.util.NoSuchElementException;

/** A desk of call taxis that are shared; what each call promises stands in the document. */
public final class SharedTaxis {
    public static final int NONE = -1;
    public static final int HIDDEN = -1000000000;

    private static final int MOST_BYTES = 800;
    private static final int MOST_QUERY_BYTES = 200;
    private static final int MOST_FORMATTED = 80;
    private static final int MOST_ZONES = 8;
    private static final int MOST_TAXIS = 4;
    private static final int MOST_SEATS = 6;
    private static final int MOST_STOPS = 12;
    private static final int MOST_RIDES = 24;
    private static final int MOST_UNDO = 10;
    private static final int MOST_OPEN = 6;
    private static final int MOST_VALUE = 99999;
    private static final int MOST_FLAG = 9999;
    private static final int MOST_RATE = 999;
    private static final int MOST_DELAY = 600;
    private static final int MOST_DETOUR = 200;
    private static final int MOST_ADVANCE = 1440;
    private static final int MOST_TAKINGS = 2000000000;
    private static final int LAST_END = 2879;
    private static final int LAST_TIME = 9999;

    private static final int WAIT = 0;
    private static final int DWELL = 1;
    private static final int OFFER = 2;
    private static final int PATIENCE = 3;
    private static final int FEE = 4;
    private static final int STINT = 5;
    private static final int REST = 6;
    private static final int DISCOUNTS = 7;
    private static final int RULES = 10;

    private static final int[] RULE_AT_FIRST = {15, 1, 5, 3, 0, 240, 30, 0, 0, 0};
    private static final int[] RULE_LEAST = {0, 0, 0, 0, 0, 1, 1, 0, 0, 0};
    private static final int[] RULE_MOST = {60, 9, 60, 30, 9999, 999, 99, 90, 90, 90};

    private static final int OFFERED = 0;
    private static final int BOOKED = 1;
    private static final int ABOARD = 2;
    private static final int DONE = 3;
    private static final int CLOSED = 4;
    private static final int NO_SHOW = 5;
    private static final int CANCELLED = 6;

    private final byte[] buffer = new byte[MOST_BYTES];
    private int filled = 0;
    private int errorAt = NONE;
    private final byte[] formatted = new byte[MOST_FORMATTED];
    private int formattedLength = 0;

    private final Town town = new Town();
    private final Desk desk = new Desk();
    private final History history = new History();
    private final Desk snapshot = new Desk();
    private boolean hasSnapshot = false;

    private final Plan plan = new Plan(town, desk);
    private final Insertion insertion = new Insertion(plan);
    private final Traffic traffic = new Traffic(town, desk, plan);

    private final Tokens tokens = new Tokens(buffer);
    private final TextReader textReader = new TextReader(tokens);
    private final QueryReader queryReader = new QueryReader(tokens, desk);

    public SharedTaxis() {
        town.clear(2);
        desk.clear();
    }

    // ---- the buffer and its texts

    public int feed(int a, int b, int c, int d, int e) {
        if (filled + 20 > MOST_BYTES) {
            return NONE;
        }
        appendFourBytes(a);
        appendFourBytes(b);
        appendFourBytes(c);
        appendFourBytes(d);
        appendFourBytes(e);
        return filled;
    }

    private void appendFourBytes(int four) {
        for (int shift = 24; shift >= 0; shift -= 8) {
            if (filled >= 0 && filled < buffer.length) {
                buffer[filled] = (byte) (four >> shift);
                filled++;
            }
        }
    }

    public int load(int length) throws IllegalArgumentException {
        if (length < 0 || length > filled) {
            throw new IllegalArgumentException("no such length");
        }
        filled = 0;
        tokens.begin(length);
        textReader.readText();
        errorAt = tokens.errorAt;
        if (tokens.error != 0) {
            return -10 - tokens.error;
        }
        town.copyFrom(textReader.town);
        desk.copyFrom(textReader.desk);
        history.clear();
        hasSnapshot = false;
        return desk.taxiCount;
    }

    public int query(int length) throws IllegalArgumentException {
        if (length < 0 || length > MOST_QUERY_BYTES || length > filled) {
            throw new IllegalArgumentException("no such length");
        }
        filled = 0;
        tokens.begin(length);
        int answer = queryReader.readQuery();
        errorAt = tokens.errorAt;
        return tokens.error != 0 ? HIDDEN - tokens.error : answer;
    }

    public int errorPosition() {
        return errorAt;
    }

    public int format(int taxi) throws NoSuchElementException {
        Taxi cab = existingTaxi(taxi);
        formattedLength = 0;
        for (int i = 0; i < cab.stops; i++) {
            if (i > 0) {
                appendFormatted(' ');
            }
            appendStop(cab.stopAt(i));
        }
        if (cab.stops == 0) {
            appendFormatted('.');
        }
        return formattedLength;
    }

    private void appendStop(int stop) {
        int ride = Desk.rideNumber(stop);
        appendFormatted(Desk.isPickup(stop) ? '+' : '-');
        if (ride >= 10) {
            appendFormatted('0' + ride / 10);
        }
        appendFormatted('0' + ride % 10);
        appendFormatted('@');
        appendFormatted('0' + desk.zoneOfStop(stop));
    }

    private void appendFormatted(int sign) {
        if (formattedLength >= 0 && formattedLength < formatted.length) {
            formatted[formattedLength] = (byte) sign;
            formattedLength++;
        }
    }

    public int formattedByte(int index) {
        if (index < 0 || index >= formattedLength || index >= formatted.length) {
            return NONE;
        }
        return formatted[index] & 255;
    }

    // ---- questions about the desk

    public int size(int what) throws NoSuchElementException {
        switch (what) {
            case 0: return town.zones;
            case 1: return town.roads;
            case 2: return desk.taxiCount;
            case 3: return desk.rideCount;
            case 4: return desk.now;
            case 5: return desk.countInState(OFFERED);
            case 6: return desk.stopsInAllRoutes();
            case 7: return desk.flag;
            case 8: return desk.rate;
            default: throw new NoSuchElementException("no such number of the desk");
        }
    }

    public int rule(int rule) throws NoSuchElementException {
        checkRule(rule);
        return desk.ruleValue(rule);
    }

    public int minutes(int zone, int other) throws NoSuchElementException {
        checkZone(zone);
        checkZone(other);
        return town.wayMinutes(zone, other);
    }

    public int taxi(int taxi, int what) throws NoSuchElementException {
        Taxi cab = existingTaxi(taxi);
        switch (what) {
            case 0: return cab.seats;
            case 1: return cab.zone;
            case 2: return cab.free;
            case 3: return cab.begin;
            case 4: return cab.end;
            case 5: return cab.stops;
            case 6: return desk.personsAboard(cab);
            case 7: return cab.parties;
            case 8: return cab.stint;
            case 9: return cab.left;
            default: throw new NoSuchElementException("no such property of a taxi");
        }
    }

    public int account(int taxi, int what) throws NoSuchElementException {
        Taxi cab = existingTaxi(taxi);
        switch (what) {
            case 0: return cab.takings;
            case 1: return cab.tips;
            case 2: return cab.driven;
            case 3: return cab.drivenWithParties;
            case 4: return cab.drivenShared;
            case 5: return cab.amounts;
            default: throw new NoSuchElementException("no such amount of a taxi");
        }
    }

    public int stop(int taxi, int index, int what) throws NoSuchElementException {
        Taxi cab = existingTaxi(taxi);
        if (index < 0 || index >= cab.stops) {
            throw new NoSuchElementException("no such stop");
        }
        int stop = cab.stopAt(index);
        plan.planRoute(cab);
        switch (what) {
            case 0: return Desk.rideNumber(stop);
            case 1: return Desk.isPickup(stop) ? 1 : 0;
            case 2: return desk.zoneOfStop(stop);
            case 3: return plan.leavingAt(index);
            case 4: return plan.arrivalAt(index);
            case 5: return plan.doneAt(index);
            default: throw new NoSuchElementException("no such property of a stop");
        }
    }

    public int ride(int ride, int what) throws NoSuchElementException {
        Ride party = existingRide(ride);
        switch (what) {
            case 0: return party.state;
            case 1: return party.from;
            case 2: return party.to;
            case 3: return party.persons;
            case 4: return party.ready;
            case 5: return party.latest;
            case 6: return party.detour;
            case 7: return party.direct;
            case 8: return party.mostAboard;
            case 9: return party.taxi;
            case 10: return party.pickedUp;
            case 11: return party.arrived;
            case 12: return party.paid;
            case 13: return party.absent ? 1 : 0;
            default: throw new NoSuchElementException("no such property of a ride");
        }
    }

    public int offer(int ride, int what) throws NoSuchElementException {
        Ride party = existingRide(ride);
        if (what < 0 || what > 4) {
            throw new NoSuchElementException("no such property of an offer");
        }
        if (party.state != OFFERED) {
            return NONE;
        }
        switch (what) {
            case 0: return party.offerTaxi;
            case 1: return party.offerExtra;
            case 2: return party.offerPickup;
            case 3: return party.offerDrop;
            default: return party.offerLast;
        }
    }

    public int extra(int ride, int taxi) throws NoSuchElementException {
        Ride party = existingRide(ride);
        Taxi cab = existingTaxi(taxi);
        if (party.state != OFFERED || !insertion.findBest(cab, ride)) {
            return NONE;
        }
        return insertion.extra;
    }

    public int fare(int ride) throws NoSuchElementException {
        Ride party = existingRide(ride);
        boolean underWay = party.state == BOOKED || party.state == ABOARD;
        if (!underWay || party.absent || !desk.hasTaxi(party.taxi)) {
            return NONE;
        }
        return traffic.fareAtDrop(desk.taxis[party.taxi], ride);
    }

    public int aloneFare(int from, int to) throws NoSuchElementException {
        checkZone(from);
        checkZone(to);
        int direct = town.wayMinutes(from, to);
        return direct == NONE ? NONE : desk.flag + direct * desk.rate;
    }

    public boolean keeps(int taxi) throws NoSuchElementException {
        Taxi cab = existingTaxi(taxi);
        plan.planRoute(cab);
        return plan.keepsLimits(cab);
    }

    public int routeMinutes(int taxi) throws NoSuchElementException {
        plan.planRoute(existingTaxi(taxi));
        return plan.minutesOfWays;
    }

    public int rides(int state) throws IllegalArgumentException {
        if (state < OFFERED || state > CANCELLED) {
            throw new IllegalArgumentException("no such state");
        }
        return desk.countInState(state);
    }

    public double meanFare() {
        int count = desk.countInState(DONE);
        return count == 0 ? 0 : (double) desk.paidByDone() / (double) count;
    }

    public float sharedPart() {
        int withParties = 0;
        int shared = 0;
        for (int i = 0; i < desk.taxiCount && i < MOST_TAXIS; i++) {
            withParties += desk.taxis[i].drivenWithParties;
            shared += desk.taxis[i].drivenShared;
        }
        return withParties == 0 ? 0 : (float) shared / (float) withParties;
    }

    // ---- operations

    public int ask(int from, int to, int persons, int delay, int detour)
            throws NoSuchElementException, IllegalArgumentException {
        checkZone(from);
        checkZone(to);
        checkRange(persons, 1, MOST_SEATS);
        checkRange(delay, 0, MOST_DELAY);
        checkRange(detour, 0, MOST_DETOUR);
        if (from == to) {
            throw new IllegalArgumentException("both zones are the same");
        }
        int ride = desk.rideCount;
        if (ride < 0 || ride >= MOST_RIDES) {
            return -2;
        }
        history.note(desk);
        Ride party = desk.rides[ride];
        party.begin(from, to, persons, detour);
        party.ready = desk.now + delay;
        party.latest = party.ready + desk.ruleValue(WAIT);
        party.setDirect(town.wayMinutes(from, to));
        desk.rideCount++;
        findOffer(party, ride);
        return ride;
    }

    private void findOffer(Ride party, int ride) {
        for (int i = 0; i < desk.taxiCount && i < MOST_TAXIS; i++) {
            if (insertion.findBest(desk.taxis[i], ride)
                    && (party.offerTaxi == NONE
                        || insertion.isBetterThan(party.offerExtra, party.offerPickup))) {
                party.offerTaxi = i;
                party.offerExtra = insertion.extra;
                party.offerPickup = insertion.pickupArrival;
                party.offerDrop = insertion.dropArrival;
            }
        }
        party.offerLast = desk.now + desk.ruleValue(OFFER);
        party.state = party.offerTaxi == NONE ? CLOSED : OFFERED;
    }

    public int accept(int ride) throws NoSuchElementException {
        Ride party = existingRide(ride);
        if (party.state != OFFERED || !desk.hasTaxi(party.offerTaxi)) {
            return -2;
        }
        Taxi cab = desk.taxis[party.offerTaxi];
        if (!insertion.findBest(cab, ride)) {
            return -3;
        }
        history.note(desk);
        cab.insertStop(insertion.pickupPlace, Desk.pickupOf(ride));
        cab.insertStop(insertion.dropPlace, Desk.dropOf(ride));
        party.state = BOOKED;
        party.taxi = party.offerTaxi;
        return insertion.pickupArrival;
    }

    public int decline(int ride) throws NoSuchElementException {
        Ride party = existingRide(ride);
        if (party.state != OFFERED) {
            return -2;
        }
        history.note(desk);
        party.state = CLOSED;
        return desk.countInState(OFFERED);
    }

    public int cancel(int ride) throws NoSuchElementException {
        Ride party = existingRide(ride);
        if (party.state != BOOKED || !desk.hasTaxi(party.taxi)) {
            return -2;
        }
        Taxi cab = desk.taxis[party.taxi];
        if (cab.left != NONE && cab.stopAt(0) == Desk.pickupOf(ride)) {
            return -3;
        }
        history.note(desk);
        cab.removeStop(Desk.pickupOf(ride));
        cab.removeStop(Desk.dropOf(ride));
        party.state = CANCELLED;
        return cab.stops;
    }

    public int absent(int ride) throws NoSuchElementException {
        Ride party = existingRide(ride);
        if (party.state != BOOKED || party.absent || !desk.hasTaxi(party.taxi)) {
            return -2;
        }
        history.note(desk);
        Taxi cab = desk.taxis[party.taxi];
        cab.removeStop(Desk.dropOf(ride));
        party.absent = true;
        return cab.stops;
    }

    public int advance(int minutes) throws IllegalArgumentException {
        checkRange(minutes, 1, MOST_ADVANCE);
        if (desk.now + minutes > LAST_TIME) {
            return -2;
        }
        history.note(desk);
        return traffic.passMinutes(minutes);
    }

    public int tip(int taxi, int cents) throws NoSuchElementException, IllegalArgumentException {
        Taxi cab = existingTaxi(taxi);
        checkRange(cents, 1, MOST_TAKINGS);
        if (cab.takings > MOST_TAKINGS - cents) {
            return -5;
        }
        history.note(desk);
        cab.takings += cents;
        cab.tips += cents;
        return cab.takings;
    }

    public int setRate(int rate) throws IllegalArgumentException {
        checkRange(rate, 0, MOST_RATE);
        history.note(desk);
        int before = desk.rate;
        desk.rate = rate;
        return before;
    }

    public int setEnd(int taxi, int end) throws NoSuchElementException, IllegalArgumentException {
        Taxi cab = existingTaxi(taxi);
        checkRange(end, cab.begin + 1, LAST_END);
        history.note(desk);
        int before = cab.end;
        cab.end = end;
        return before;
    }

    public int setRule(int rule, int value) throws NoSuchElementException, IllegalArgumentException {
        checkRule(rule);
        checkRange(value, RULE_LEAST[rule], RULE_MOST[rule]);
        history.note(desk);
        int before = desk.ruleValue(rule);
        desk.changeRule(rule, value);
        return before;
    }

    // ---- undo and snapshot

    public int undoCount() {
        return history.count;
    }

    public int undo() {
        if (history.count == 0) {
            return NONE;
        }
        history.takeBack(desk);
        return history.count;
    }

    public void saveSnapshot() {
        snapshot.copyFrom(desk);
        hasSnapshot = true;
    }

    public boolean restoreSnapshot() {
        if (!hasSnapshot) {
            return false;
        }
        desk.copyFrom(snapshot);
        history.clear();
        return true;
    }

    // ---- checks of arguments

    private void checkZone(int zone) {
        if (zone < 0 || zone >= town.zones) {
            throw new NoSuchElementException("no such zone");
        }
    }

    private static void checkRule(int rule) {
        if (rule < 0 || rule >= RULES) {
            throw new NoSuchElementException("no such rule");
        }
    }

    private static void checkRange(int value, int least, int most) {
        if (value < least || value > most) {
            throw new IllegalArgumentException("out of range");
        }
    }

    private Taxi existingTaxi(int taxi) {
        if (!desk.hasTaxi(taxi)) {
            throw new NoSuchElementException("no such taxi");
        }
        return desk.taxis[taxi];
    }

    private Ride existingRide(int ride) {
        if (ride < 0 || ride >= desk.rideCount || ride >= MOST_RIDES) {
            throw new NoSuchElementException("no such ride");
        }
        return desk.rides[ride];
    }

    /** The zones, the roads and the ways over them. Only load changes it, so undoing leaves it alone. */
    private static final class Town {
        int zones;
        int roads;
        private final int[] ways = new int[MOST_ZONES * MOST_ZONES];

        void clear(int count) {
            zones = count;
            roads = 0;
            for (int a = 0; a < MOST_ZONES; a++) {
                for (int b = 0; b < MOST_ZONES; b++) {
                    ways[a * MOST_ZONES + b] = a == b ? 0 : NONE;
                }
            }
        }

        void copyFrom(Town other) {
            zones = other.zones;
            roads = other.roads;
            for (int i = 0; i < ways.length; i++) {
                ways[i] = other.ways[i];
            }
        }

        int wayMinutes(int a, int b) {
            return hasPlaces(a, b) ? ways[a * MOST_ZONES + b] : NONE;
        }

        private static boolean hasPlaces(int a, int b) {
            return a >= 0 && a < MOST_ZONES && b >= 0 && b < MOST_ZONES;
        }

        void addRoad(int a, int b, int minutes) {
            if (!hasPlaces(a, b)) {
                return;
            }
            roads++;
            ways[a * MOST_ZONES + b] = minutes;
            ways[b * MOST_ZONES + a] = minutes;
        }

        /** Called once all roads are there: till then each way is a road, or that from a zone to itself. */
        void findWays() {
            for (int over = 0; over < MOST_ZONES; over++) {
                for (int a = 0; a < MOST_ZONES; a++) {
                    for (int b = 0; b < MOST_ZONES; b++) {
                        shorten(a, b, over);
                    }
                }
            }
        }

        private void shorten(int a, int b, int over) {
            int first = wayMinutes(a, over);
            int second = wayMinutes(over, b);
            if (first == NONE || second == NONE || !hasPlaces(a, b)) {
                return;
            }
            int known = wayMinutes(a, b);
            if (known == NONE || first + second < known) {
                ways[a * MOST_ZONES + b] = first + second;
            }
        }
    }

    /** Everything that operations change, and that undoing and snapshots bring back. */
    private static final class Desk {
        int now;
        int flag;
        int rate;
        int taxiCount;
        int rideCount;
        private final int[] rules = new int[RULES];
        final Taxi[] taxis = new Taxi[MOST_TAXIS];
        final Ride[] rides = new Ride[MOST_RIDES];

        Desk() {
            for (int i = 0; i < MOST_TAXIS; i++) {
                taxis[i] = new Taxi();
            }
            for (int i = 0; i < MOST_RIDES; i++) {
                rides[i] = new Ride();
            }
        }

        void clear() {
            now = 0;
            flag = 0;
            rate = 0;
            taxiCount = 0;
            rideCount = 0;
            for (int i = 0; i < RULES; i++) {
                rules[i] = RULE_AT_FIRST[i];
            }
        }

        void copyFrom(Desk other) {
            now = other.now;
            flag = other.flag;
            rate = other.rate;
            taxiCount = other.taxiCount;
            rideCount = other.rideCount;
            for (int i = 0; i < RULES; i++) {
                rules[i] = other.rules[i];
            }
            for (int i = 0; i < taxiCount && i < MOST_TAXIS; i++) {
                taxis[i].copyFrom(other.taxis[i]);
            }
            for (int i = 0; i < rideCount && i < MOST_RIDES; i++) {
                rides[i].copyFrom(other.rides[i]);
            }
        }

        int ruleValue(int rule) {
            return rule >= 0 && rule < RULES ? rules[rule] : 0;
        }

        void changeRule(int rule, int value) {
            if (rule >= 0 && rule < RULES) {
                rules[rule] = value;
            }
        }

        boolean hasTaxi(int number) {
            return number >= 0 && number < taxiCount && number < MOST_TAXIS;
        }

        int countInState(int state) {
            int count = 0;
            for (int i = 0; i < rideCount && i < MOST_RIDES; i++) {
                if (rides[i].state == state) {
                    count++;
                }
            }
            return count;
        }

        int paidByDone() {
            int paid = 0;
            for (int i = 0; i < rideCount && i < MOST_RIDES; i++) {
                if (rides[i].state == DONE) {
                    paid += rides[i].paid;
                }
            }
            return paid;
        }

        int stopsInAllRoutes() {
            int stops = 0;
            for (int i = 0; i < taxiCount && i < MOST_TAXIS; i++) {
                stops += taxis[i].stops;
            }
            return stops;
        }

        int personsAboard(Taxi cab) {
            int persons = 0;
            for (int i = 0; i < cab.parties; i++) {
                persons += rideAt(cab.partyAt(i)).persons;
            }
            return persons;
        }

        // A stop is one number, so that a route is a plain row: twice its ride, plus 1 for a pickup.

        static int pickupOf(int ride) {
            return ride * 2 + 1;
        }

        static int dropOf(int ride) {
            return ride * 2;
        }

        static boolean isPickup(int stop) {
            return (stop & 1) == 1;
        }

        static int rideNumber(int stop) {
            return stop >> 1;
        }

        int zoneOfStop(int stop) {
            Ride party = rideAt(rideNumber(stop));
            return isPickup(stop) ? party.from : party.to;
        }

        /** Any number has an answer, so that no caller can step out of the row; only real ones are asked for. */
        Ride rideAt(int number) {
            return rides[number >= 0 && number < MOST_RIDES ? number : 0];
        }
    }

    /** A taxi with its route, the parties aboard in the order in which they came, and its accounts. */
    private static final class Taxi {
        int seats;
        int zone;
        int free;
        int begin;
        int end;
        int stint;
        int left;
        int stops;
        int parties;
        private final int[] route = new int[MOST_STOPS];
        private final int[] aboard = new int[MOST_SEATS];
        int takings;
        int tips;
        int driven;
        int drivenWithParties;
        int drivenShared;
        int amounts;

        void startShift(int seatCount, int firstZone, int shiftBegin, int shiftEnd) {
            seats = seatCount;
            zone = firstZone;
            free = shiftBegin;
            begin = shiftBegin;
            end = shiftEnd;
            stint = 0;
            left = NONE;
            stops = 0;
            parties = 0;
            takings = 0;
            tips = 0;
            driven = 0;
            drivenWithParties = 0;
            drivenShared = 0;
            amounts = 0;
        }

        void copyFrom(Taxi other) {
            seats = other.seats;
            zone = other.zone;
            free = other.free;
            begin = other.begin;
            end = other.end;
            stint = other.stint;
            left = other.left;
            stops = other.stops;
            parties = other.parties;
            for (int i = 0; i < MOST_STOPS; i++) {
                route[i] = other.route[i];
            }
            for (int i = 0; i < MOST_SEATS; i++) {
                aboard[i] = other.aboard[i];
            }
            takings = other.takings;
            tips = other.tips;
            driven = other.driven;
            drivenWithParties = other.drivenWithParties;
            drivenShared = other.drivenShared;
            amounts = other.amounts;
        }

        int stopAt(int place) {
            return place >= 0 && place < stops && place < MOST_STOPS ? route[place] : NONE;
        }

        void insertStop(int place, int stop) {
            if (place < 0 || place > stops || stops < 0 || stops >= MOST_STOPS) {
                return;
            }
            for (int i = stops; i > place; i--) {
                route[i] = route[i - 1];
            }
            route[place] = stop;
            stops++;
        }

        void removeStop(int stop) {
            int kept = 0;
            for (int i = 0; i < stops && i < MOST_STOPS; i++) {
                if (route[i] != stop) {
                    route[kept] = route[i];
                    kept++;
                }
            }
            stops = kept;
        }

        int partyAt(int place) {
            return place >= 0 && place < parties && place < MOST_SEATS ? aboard[place] : NONE;
        }

        void takeAboard(int ride) {
            if (parties >= 0 && parties < MOST_SEATS) {
                aboard[parties] = ride;
                parties++;
            }
        }

        void letOut(int ride) {
            int kept = 0;
            for (int i = 0; i < parties && i < MOST_SEATS; i++) {
                if (aboard[i] != ride) {
                    aboard[kept] = aboard[i];
                    kept++;
                }
            }
            parties = kept;
        }
    }

    /** A ride that was asked for, with its offer. */
    private static final class Ride {
        int state;
        int from;
        int to;
        int persons;
        int ready;
        int latest;
        int detour;
        int direct;
        int mostAboard;
        int taxi;
        int pickedUp;
        int arrived;
        int paid;
        boolean absent;
        int offerTaxi;
        int offerExtra;
        int offerPickup;
        int offerDrop;
        int offerLast;

        void begin(int fromZone, int toZone, int personCount, int detourLimit) {
            state = OFFERED;
            from = fromZone;
            to = toZone;
            persons = personCount;
            detour = detourLimit;
            taxi = NONE;
            pickedUp = NONE;
            arrived = NONE;
            paid = 0;
            absent = false;
            offerTaxi = NONE;
            offerExtra = NONE;
            offerPickup = NONE;
            offerDrop = NONE;
            offerLast = NONE;
        }

        void setDirect(int minutes) {
            direct = minutes;
            mostAboard = minutes == NONE ? NONE : minutes * (100 + detour) / 100;
        }

        void copyFrom(Ride other) {
            state = other.state;
            from = other.from;
            to = other.to;
            persons = other.persons;
            ready = other.ready;
            latest = other.latest;
            detour = other.detour;
            direct = other.direct;
            mostAboard = other.mostAboard;
            taxi = other.taxi;
            pickedUp = other.pickedUp;
            arrived = other.arrived;
            paid = other.paid;
            absent = other.absent;
            offerTaxi = other.offerTaxi;
            offerExtra = other.offerExtra;
            offerPickup = other.offerPickup;
            offerDrop = other.offerDrop;
            offerLast = other.offerLast;
        }
    }

    /** The most recent states of the desk, in a ring that forgets the oldest one. */
    private static final class History {
        int count = 0;
        private int next = 0;
        private final Desk[] states = new Desk[MOST_UNDO];

        History() {
            for (int i = 0; i < MOST_UNDO; i++) {
                states[i] = new Desk();
            }
        }

        void clear() {
            count = 0;
            next = 0;
        }

        void note(Desk desk) {
            if (next < 0 || next >= MOST_UNDO) {
                next = 0;
            }
            states[next].copyFrom(desk);
            next = (next + 1) % MOST_UNDO;
            if (count < MOST_UNDO) {
                count++;
            }
        }

        void takeBack(Desk desk) {
            next = next > 0 && next < MOST_UNDO ? next - 1 : MOST_UNDO - 1;
            count--;
            desk.copyFrom(states[next]);
        }
    }

    /** The times of a list of stops for a taxi, and whether they keep the limits. */
    private static final class Plan {
        int minutesOfWays;
        private final Town town;
        private final Desk desk;
        private int count;
        private boolean connected;
        private final int[] list = new int[MOST_STOPS];
        private final int[] way = new int[MOST_STOPS];
        private final int[] leave = new int[MOST_STOPS];
        private final int[] arrive = new int[MOST_STOPS];
        private final int[] done = new int[MOST_STOPS];
        private final int[] pickupDone = new int[MOST_RIDES];

        Plan(Town town, Desk desk) {
            this.town = town;
            this.desk = desk;
        }

        int wayTo(int place) {
            return hasPlace(place) ? way[place] : NONE;
        }

        int leavingAt(int place) {
            return hasPlace(place) ? leave[place] : NONE;
        }

        int arrivalAt(int place) {
            return hasPlace(place) ? arrive[place] : NONE;
        }

        int doneAt(int place) {
            return hasPlace(place) ? done[place] : NONE;
        }

        private boolean hasPlace(int place) {
            return place >= 0 && place < count && place < MOST_STOPS;
        }

        void planRoute(Taxi cab) {
            count = 0;
            for (int i = 0; i < cab.stops; i++) {
                append(cab.stopAt(i));
            }
            planTimes(cab);
        }

        /** Plans the route with a ride put in; both places count in the list that comes out. */
        void planInsertion(Taxi cab, int ride, int pickupPlace, int dropPlace) {
            count = 0;
            int taken = 0;
            for (int place = 0; place < cab.stops + 2; place++) {
                if (place == pickupPlace) {
                    append(Desk.pickupOf(ride));
                } else if (place == dropPlace) {
                    append(Desk.dropOf(ride));
                } else {
                    append(cab.stopAt(taken));
                    taken++;
                }
            }
            planTimes(cab);
        }

        private void append(int stop) {
            if (count >= 0 && count < MOST_STOPS) {
                list[count] = stop;
                count++;
            }
        }

        private void planTimes(Taxi cab) {
            int zone = cab.zone;
            int free = cab.free;
            minutesOfWays = 0;
            connected = true;
            for (int i = 0; i < count && i < MOST_STOPS; i++) {
                int target = desk.zoneOfStop(list[i]);
                int minutes = town.wayMinutes(zone, target);
                connected = connected && minutes != NONE;
                way[i] = Math.max(minutes, 0);
                leave[i] = leavingTime(cab, i, free);
                arrive[i] = leave[i] + way[i];
                done[i] = arrive[i] + stayAt(list[i]);
                minutesOfWays += way[i];
                zone = target;
                free = done[i];
            }
        }

        private int leavingTime(Taxi cab, int place, int free) {
            if (!hasPlace(place) || place == 0 && cab.left != NONE) {
                return cab.left;
            }
            int time = place == 0 ? Math.max(free, desk.now) : free;
            if (Desk.isPickup(list[place])) {
                Ride party = desk.rideAt(Desk.rideNumber(list[place]));
                time = Math.max(time, party.ready - way[place]);
            }
            return time;
        }

        private int stayAt(int stop) {
            boolean inVain = Desk.isPickup(stop) && desk.rideAt(Desk.rideNumber(stop)).absent;
            return desk.ruleValue(inVain ? PATIENCE : DWELL);
        }

        /** The stint behind a way, for which the taxi leaves some time after it became free. */
        int stintBehind(int stint, int free, int leaving, int minutes) {
            return leaving - free >= desk.ruleValue(REST) ? minutes : stint + minutes;
        }

        boolean keepsLimits(Taxi cab) {
            if (count == 0) {
                return true;
            }
            if (!connected || doneAt(count - 1) > cab.end) {
                return false;
            }
            int persons = desk.personsAboard(cab);
            int stint = cab.stint;
            int free = cab.free;
            for (int i = 0; i < count && i < MOST_STOPS; i++) {
                stint = stintBehind(stint, free, leave[i], way[i]);
                if (persons > cab.seats || stint > desk.ruleValue(STINT) || !isInTime(i)) {
                    return false;
                }
                persons += personsChange(list[i]);
                free = done[i];
            }
            return true;
        }

        /** Looks at the stops in their order: a drop needs the time that its pickup noted. */
        private boolean isInTime(int place) {
            int number = hasPlace(place) ? Desk.rideNumber(list[place]) : NONE;
            if (number < 0 || number >= MOST_RIDES) {
                return false;
            }
            Ride party = desk.rideAt(number);
            if (Desk.isPickup(list[place])) {
                pickupDone[number] = done[place];
                return arrive[place] <= party.latest;
            }
            int since = party.state == ABOARD ? party.pickedUp : pickupDone[number];
            return arrive[place] <= since + party.mostAboard;
        }

        private int personsChange(int stop) {
            Ride party = desk.rideAt(Desk.rideNumber(stop));
            if (!Desk.isPickup(stop)) {
                return -party.persons;
            }
            return party.absent ? 0 : party.persons;
        }
    }

    /** The best insertion of a ride into the route of a taxi. */
    private static final class Insertion {
        int extra;
        int pickupArrival;
        int dropArrival;
        int pickupPlace;
        int dropPlace;
        private final Plan plan;

        Insertion(Plan plan) {
            this.plan = plan;
        }

        /** Tries the places in their order, so that of equal insertions the first one stays. */
        boolean findBest(Taxi cab, int ride) {
            int last = cab.stops + 1;
            if (last >= MOST_STOPS) {
                return false;
            }
            plan.planRoute(cab);
            int before = plan.minutesOfWays;
            int first = cab.left == NONE ? 0 : 1;
            boolean found = false;
            for (int pickup = first; pickup < last; pickup++) {
                for (int drop = pickup + 1; drop <= last; drop++) {
                    plan.planInsertion(cab, ride, pickup, drop);
                    int planned = plan.minutesOfWays - before;
                    boolean better = !found || !isAsGoodAs(planned, plan.arrivalAt(pickup));
                    if (better && plan.keepsLimits(cab)) {
                        found = true;
                        keep(planned, pickup, drop);
                    }
                }
            }
            return found;
        }

        private void keep(int planned, int pickup, int drop) {
            extra = planned;
            pickupArrival = plan.arrivalAt(pickup);
            dropArrival = plan.arrivalAt(drop);
            pickupPlace = pickup;
            dropPlace = drop;
        }

        private boolean isAsGoodAs(int otherExtra, int otherArrival) {
            return extra < otherExtra || extra == otherExtra && pickupArrival <= otherArrival;
        }

        boolean isBetterThan(int otherExtra, int otherArrival) {
            return extra < otherExtra || extra == otherExtra && pickupArrival < otherArrival;
        }
    }

    /** The taxis on their ways: what happens while minutes pass, and what parties pay for it. */
    private static final class Traffic {
        private final Town town;
        private final Desk desk;
        private final Plan plan;
        private final Taxi fancied = new Taxi();

        Traffic(Town town, Desk desk, Plan plan) {
            this.town = town;
            this.desk = desk;
            this.plan = plan;
        }

        int passMinutes(int minutes) {
            int until = desk.now + minutes;
            int happened = 0;
            for (int i = 0; i < desk.taxiCount && i < MOST_TAXIS; i++) {
                happened += driveTill(desk.taxis[i], until);
            }
            // Not before: while minutes pass, the plans count from the time as it was.
            desk.now = until;
            closeOffers();
            return happened;
        }

        private int driveTill(Taxi cab, int until) {
            int happened = 0;
            for (int i = 0; i < MOST_STOPS && cab.stops > 0; i++) {
                plan.planRoute(cab);
                if (plan.doneAt(0) > until) {
                    cab.left = plan.leavingAt(0) < until ? plan.leavingAt(0) : NONE;
                    return happened;
                }
                doFirstStop(cab);
                happened++;
            }
            return happened;
        }

        private void doFirstStop(Taxi cab) {
            int stop = cab.stopAt(0);
            int ride = Desk.rideNumber(stop);
            payWay(cab, plan.wayTo(0));
            cab.stint = plan.stintBehind(cab.stint, cab.free, plan.leavingAt(0), plan.wayTo(0));
            cab.zone = desk.zoneOfStop(stop);
            cab.free = plan.doneAt(0);
            cab.left = NONE;
            cab.removeStop(stop);
            if (Desk.isPickup(stop)) {
                endPickup(cab, ride);
            } else {
                endDrop(cab, ride);
            }
        }

        private void payWay(Taxi cab, int minutes) {
            int amount = amountOfWay(minutes, cab.parties);
            for (int place = 0; place < cab.parties; place++) {
                pay(cab, desk.rideAt(cab.partyAt(place)), shareOf(amount, cab.parties, place));
            }
            cab.amounts += amount;
            cab.driven += minutes;
            cab.drivenWithParties += cab.parties > 0 ? minutes : 0;
            cab.drivenShared += cab.parties > 1 ? minutes : 0;
        }

        private static void pay(Taxi cab, Ride party, int cents) {
            party.paid += cents;
            cab.takings += cents;
        }

        private void endPickup(Taxi cab, int ride) {
            Ride party = desk.rideAt(ride);
            party.pickedUp = plan.doneAt(0);
            if (party.absent) {
                party.state = NO_SHOW;
                pay(cab, party, desk.ruleValue(FEE));
            } else {
                party.state = ABOARD;
                pay(cab, party, desk.flag);
                cab.takeAboard(ride);
            }
        }

        private void endDrop(Taxi cab, int ride) {
            Ride party = desk.rideAt(ride);
            party.state = DONE;
            party.arrived = plan.arrivalAt(0);
            cab.letOut(ride);
        }

        private void closeOffers() {
            for (int i = 0; i < desk.rideCount && i < MOST_RIDES; i++) {
                Ride party = desk.rides[i];
                if (party.state == OFFERED && desk.now > party.offerLast) {
                    party.state = CLOSED;
                }
            }
        }

        private int amountOfWay(int minutes, int parties) {
            if (parties < 1) {
                return 0;
            }
            int price = minutes * desk.rate;
            int discount = parties == 1 ? 0 : desk.ruleValue(DISCOUNTS + Math.min(parties, 4) - 2);
            return price - price * discount / 100;
        }

        /** The share of the party that came aboard as the one with this place, from 0. */
        private static int shareOf(int amount, int parties, int place) {
            if (parties < 1) {
                return 0;
            }
            return amount / parties + (place < amount % parties ? 1 : 0);
        }

        /** Drives the route in a copy of the taxi, till the drop of the ride. */
        int fareAtDrop(Taxi cab, int ride) {
            Ride party = desk.rideAt(ride);
            int paid = party.paid + (party.state == BOOKED ? desk.flag : 0);
            fancied.copyFrom(cab);
            for (int i = 0; i < cab.stops; i++) {
                int stop = cab.stopAt(i);
                int zone = desk.zoneOfStop(stop);
                paid += shareOnWay(town.wayMinutes(fancied.zone, zone), ride);
                if (stop == Desk.dropOf(ride)) {
                    return paid;
                }
                fancied.zone = zone;
                fancyStop(stop);
            }
            return paid;
        }

        private int shareOnWay(int minutes, int ride) {
            int amount = amountOfWay(minutes, fancied.parties);
            for (int place = 0; place < fancied.parties; place++) {
                if (fancied.partyAt(place) == ride) {
                    return shareOf(amount, fancied.parties, place);
                }
            }
            return 0;
        }

        private void fancyStop(int stop) {
            int ride = Desk.rideNumber(stop);
            if (!Desk.isPickup(stop)) {
                fancied.letOut(ride);
            } else if (!desk.rideAt(ride).absent) {
                fancied.takeAboard(ride);
            }
        }
    }

    /** The tokens of a text in the buffer, and the first error that is found among them. */
    private static final class Tokens {
        // The places of words in WORDS. 'taxi' begins a clause and is a property, so it stands between both.
        static final int ZONES = 0;
        static final int ROAD = 1;
        static final int TARIFF = 2;
        static final int DISCOUNT = 3;
        static final int RULE = 4;
        static final int TAXI = 5;
        static final int RIDE = 6;
        static final int STATE = 7;
        static final int FROM = 8;
        static final int TO = 9;
        static final int PERSONS = 10;
        static final int READY = 11;
        static final int DETOUR = 12;
        static final int FARE = 13;
        static final int FIRST_RULE = 14;
        static final int LAST_RULE = 20;
        static final int MANY = 21;
        static final int FIRST = 22;
        static final int OR = 23;
        static final int AND = 24;
        static final int NOT = 25;
        private static final String WORDS = "zones road tariff discount rule taxi ride state from to persons ready detour fare wait dwell offer patience fee stint rest many first or and not";

        private static final int BLANK = 0;
        private static final int WORD = 1;
        private static final int NUMBER = 2;
        private static final int SIGN = 3;
        private static final int END = 4;

        /** Greater than every number that may be asked for, so that more digits cannot overflow. */
        private static final int GREAT_NUMBER = 1000000;

        int error;
        int errorAt = NONE;
        private final byte[] bytes;
        private final int[] kinds = new int[MOST_BYTES + 1];
        private final int[] starts = new int[MOST_BYTES + 1];
        private final int[] lengths = new int[MOST_BYTES + 1];
        private final int[] values = new int[MOST_BYTES + 1];
        private int count;
        private int current;
        private int kind;
        private int value;

        Tokens(byte[] bytes) {
            this.bytes = bytes;
        }

        /** Cuts the first bytes of the buffer into tokens and goes to the first one. */
        void begin(int length) {
            error = 0;
            errorAt = NONE;
            count = 0;
            int before = BLANK;
            for (int place = 0; place < length; place++) {
                int sign = byteAt(place);
                int found = kindOf(sign);
                if (found == SIGN || found != BLANK && found != before) {
                    appendToken(found, place);
                }
                if (found != BLANK) {
                    extendToken(sign);
                }
                before = found;
            }
            appendToken(END, length);
            nameWords();
            current = NONE;
            next();
        }

        private int byteAt(int place) {
            return place >= 0 && place < bytes.length ? bytes[place] & 255 : 0;
        }

        /** An invalid token is a sign, one that nobody asks for. */
        private static int kindOf(int sign) {
            if (sign == ' ' || sign == '\n') {
                return BLANK;
            }
            if (sign >= 'a' && sign <= 'z') {
                return WORD;
            }
            return sign >= '0' && sign <= '9' ? NUMBER : SIGN;
        }

        private void appendToken(int found, int place) {
            if (count >= 0 && count <= MOST_BYTES) {
                kinds[count] = found;
                starts[count] = place;
                lengths[count] = 0;
                values[count] = 0;
                count++;
            }
        }

        private void extendToken(int sign) {
            int last = count - 1;
            if (last < 0 || last > MOST_BYTES) {
                return;
            }
            lengths[last]++;
            if (kinds[last] == NUMBER) {
                values[last] = Math.min(values[last] * 10 + sign - '0', GREAT_NUMBER);
            } else {
                values[last] = sign;
            }
        }

        private void nameWords() {
            for (int i = 0; i < count && i <= MOST_BYTES; i++) {
                if (kinds[i] == WORD) {
                    values[i] = placeOfWord(starts[i], lengths[i]);
                }
            }
        }

        private int placeOfWord(int start, int length) {
            int place = 0;
            int begin = 0;
            for (int i = 0; i <= WORDS.length(); i++) {
                if (i == WORDS.length() || WORDS.charAt(i) == ' ') {
                    if (i - begin == length && isWordAt(begin, start, length)) {
                        return place;
                    }
                    place++;
                    begin = i + 1;
                }
            }
            return NONE;
        }

        private boolean isWordAt(int begin, int start, int length) {
            for (int i = 0; i < length; i++) {
                int at = begin + i;
                if (at < 0 || at >= WORDS.length() || WORDS.charAt(at) != byteAt(start + i)) {
                    return false;
                }
            }
            return true;
        }

        /** Goes on to the next token; at the end it stays there. */
        void next() {
            if (current < count - 1) {
                current++;
            }
            boolean known = current >= 0 && current <= MOST_BYTES;
            kind = known ? kinds[current] : END;
            value = known ? values[current] : 0;
        }

        void fail(int code) {
            if (error == 0 && current >= 0 && current <= MOST_BYTES) {
                error = code;
                errorAt = starts[current];
            }
        }

        boolean hasMore() {
            return error == 0 && kind != END;
        }

        boolean isNumber() {
            return kind == NUMBER;
        }

        boolean isWord(int word) {
            return kind == WORD && value == word;
        }

        boolean isSign(char sign) {
            return kind == SIGN && value == sign;
        }

        void takeSign(char sign) {
            if (kind == SIGN && value == sign) {
                next();
            } else {
                fail(1);
            }
        }

        /** Takes one of the words between these places and returns it; otherwise NONE and an error. */
        int takeWord(int first, int last) {
            if (kind != WORD || value < first || value > last) {
                fail(1);
                return NONE;
            }
            int taken = value;
            next();
            return taken;
        }

        int takeNumber(int least, int most) {
            int taken = checkNumber(least, most);
            next();
            return taken;
        }

        /** The number here if it is in the range, without going on; otherwise NONE and an error. */
        int checkNumber(int least, int most) {
            if (kind != NUMBER) {
                fail(1);
                return NONE;
            }
            if (value < least || value > most) {
                fail(2);
                return NONE;
            }
            return value;
        }
    }

    /**
     * Reads the text of load into a town and a desk of its own, so that an error changes nothing outside.
     * Behind an error it reads on till the clause ends, but only the first error counts.
     */
    private static final class TextReader {
        final Town town = new Town();
        final Desk desk = new Desk();
        private final Tokens tokens;

        TextReader(Tokens tokens) {
            this.tokens = tokens;
        }

        void readText() {
            desk.clear();
            tokens.takeWord(Tokens.ZONES, Tokens.ZONES);
            town.clear(tokens.takeNumber(2, MOST_ZONES));
            tokens.takeSign(';');
            for (int i = 0; i < MOST_BYTES && tokens.hasMore(); i++) {
                readClause();
            }
            town.findWays();
        }

        private void readClause() {
            if (tokens.isWord(Tokens.TAXI) && desk.taxiCount >= MOST_TAXIS) {
                tokens.fail(3);
            }
            switch (tokens.takeWord(Tokens.ROAD, Tokens.TAXI)) {
                case Tokens.ROAD:
                    readRoad();
                    break;
                case Tokens.TARIFF:
                    desk.flag = tokens.takeNumber(0, MOST_FLAG);
                    desk.rate = tokens.takeNumber(0, MOST_RATE);
                    break;
                case Tokens.DISCOUNT:
                    readRuleValue(DISCOUNTS + tokens.takeNumber(2, 4) - 2);
                    break;
                case Tokens.RULE:
                    readRuleValue(tokens.takeWord(Tokens.FIRST_RULE, Tokens.LAST_RULE) - Tokens.FIRST_RULE);
                    break;
                case Tokens.TAXI:
                    readTaxi();
                    break;
                default:
                    break;
            }
            tokens.takeSign(';');
        }

        private void readRoad() {
            int first = tokens.takeNumber(0, town.zones - 1);
            int second = tokens.checkNumber(0, town.zones - 1);
            // Before the ways are found, only a road joins two zones, and each zone itself.
            if (town.wayMinutes(first, second) != NONE) {
                tokens.fail(4);
            }
            tokens.next();
            town.addRoad(first, second, tokens.takeNumber(1, 99));
        }

        private void readRuleValue(int rule) {
            if (rule >= 0 && rule < RULES) {
                desk.changeRule(rule, tokens.takeNumber(RULE_LEAST[rule], RULE_MOST[rule]));
            }
        }

        private void readTaxi() {
            int seats = tokens.takeNumber(1, MOST_SEATS);
            int zone = tokens.takeNumber(0, town.zones - 1);
            int begin = tokens.takeNumber(0, LAST_END);
            int end = tokens.checkNumber(0, LAST_END);
            if (end <= begin) {
                tokens.fail(4);
            }
            tokens.next();
            if (desk.taxiCount >= 0 && desk.taxiCount < MOST_TAXIS) {
                desk.taxis[desk.taxiCount].startShift(seats, zone, begin, end);
                desk.taxiCount++;
            }
        }
    }

    /** Reads a query once, for all rides together: what holds is a set of rides, one bit for each. */
    private static final class QueryReader {
        private final Tokens tokens;
        private final Desk desk;

        QueryReader(Tokens tokens, Desk desk) {
            this.tokens = tokens;
            this.desk = desk;
        }

        int readQuery() {
            boolean first = tokens.takeWord(Tokens.MANY, Tokens.FIRST) == Tokens.FIRST;
            int holding = readTest(0);
            if (tokens.hasMore()) {
                tokens.fail(1);
            }
            int count = 0;
            for (int i = 0; i < desk.rideCount && i < MOST_RIDES; i++) {
                boolean holds = (holding >> i & 1) == 1;
                if (holds && first) {
                    return i;
                }
                count += holds ? 1 : 0;
            }
            return first ? NONE : count;
        }

        private int readTest(int open) {
            int holding = readConjunction(open);
            for (int i = 0; i < MOST_QUERY_BYTES && tokens.isWord(Tokens.OR); i++) {
                tokens.next();
                holding |= readConjunction(open);
            }
            return holding;
        }

        private int readConjunction(int open) {
            int holding = readFactor(open);
            for (int i = 0; i < MOST_QUERY_BYTES && tokens.isWord(Tokens.AND); i++) {
                tokens.next();
                holding &= readFactor(open);
            }
            return holding;
        }

        private int readFactor(int open) {
            if (tokens.isWord(Tokens.NOT) || tokens.isSign('(')) {
                return readOpened(open);
            }
            int left = readValue();
            boolean less = tokens.isSign('<');
            boolean greater = tokens.isSign('>');
            if (!less && !greater && !tokens.isSign('=')) {
                tokens.fail(1);
            }
            tokens.next();
            return holdingFor(left, less ? -1 : greater ? 1 : 0, readValue());
        }

        /** Reads behind a 'not' or '(', with so many of them open around it. */
        private int readOpened(int open) {
            if (open >= MOST_OPEN) {
                tokens.fail(3);
                return 0;
            }
            boolean isNot = tokens.isWord(Tokens.NOT);
            tokens.next();
            if (isNot) {
                return ~readFactor(open + 1);
            }
            int holding = readTest(open + 1);
            tokens.takeSign(')');
            return holding;
        }

        /** Returns a number as it is, and a property as NONE minus its word. */
        private int readValue() {
            if (tokens.isNumber()) {
                int number = tokens.checkNumber(0, MOST_VALUE);
                tokens.next();
                return number;
            }
            return NONE - tokens.takeWord(Tokens.TAXI, Tokens.FARE);
        }

        private int holdingFor(int left, int order, int right) {
            int holding = 0;
            for (int i = 0; i < desk.rideCount && i < MOST_RIDES; i++) {
                int leftNumber = valueFor(left, i);
                int rightNumber = valueFor(right, i);
                int found = leftNumber < rightNumber ? -1 : leftNumber > rightNumber ? 1 : 0;
                if (found == order) {
                    holding |= 1 << i;
                }
            }
            return holding;
        }

        private int valueFor(int value, int number) {
            Ride party = desk.rideAt(number);
            switch (NONE - value) {
                case Tokens.RIDE: return number;
                case Tokens.STATE: return party.state;
                case Tokens.FROM: return party.from;
                case Tokens.TO: return party.to;
                case Tokens.PERSONS: return party.persons;
                case Tokens.READY: return party.ready;
                case Tokens.DETOUR: return party.detour;
                case Tokens.FARE: return party.paid;
                case Tokens.TAXI: return party.taxi + 1;
                default: return value;
            }
        }
    }
}
