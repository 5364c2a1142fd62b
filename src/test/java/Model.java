import java.util.ArrayList;
import java.util.HashMap;
import java.util.List;
import java.util.Map;
import java.util.NoSuchElementException;
import java.util.function.IntPredicate;
import java.util.function.IntUnaryOperator;
import java.util.regex.Matcher;
import java.util.regex.Pattern;

/** The document said once more with lists, maps and copies, so that the answers of SharedTaxis can be compared with it. */
public final class Model {
    private static final String[] RULES = {"wait", "dwell", "offer", "patience", "fee", "stint", "rest"};
    private static final int[][] RANGES = {
        {0, 60}, {0, 9}, {0, 60}, {0, 30}, {0, 9999}, {1, 999}, {1, 99}, {0, 90}, {0, 90}, {0, 90}};

    record Stop(int ride, boolean pickup) { }

    record Leg(int minutes, int leaves, int arrives, int done, int stint) { }

    record Best(List<Stop> route, int extra, int pickup, int drop) { }

    static final class Party {
        int from, to, persons, ready, latest, limit, direct, most, state, paid;
        int taxi = -1, pickedUp = -1, arrived = -1;
        boolean absent;
        int[] offer = {-1, -1, -1, -1, -1};

        Party copy() {
            Party p = new Party();
            p.from = from; p.to = to; p.persons = persons; p.ready = ready; p.latest = latest; p.limit = limit;
            p.direct = direct; p.most = most; p.state = state; p.paid = paid; p.taxi = taxi;
            p.pickedUp = pickedUp; p.arrived = arrived; p.absent = absent; p.offer = offer.clone();
            return p;
        }
    }

    static final class Cab {
        int seats, zone, free, begin, end, stint;
        int left = -1;
        List<Stop> route = new ArrayList<>();
        List<Integer> aboard = new ArrayList<>();
        int[] account = new int[6];

        Cab copy() {
            Cab c = new Cab();
            c.seats = seats; c.zone = zone; c.free = free; c.begin = begin; c.end = end; c.stint = stint; c.left = left;
            c.route = new ArrayList<>(route);
            c.aboard = new ArrayList<>(aboard);
            c.account = account.clone();
            return c;
        }
    }

    static final class State {
        int now, flag, rate;
        int[] rules = {15, 1, 5, 3, 0, 240, 30, 0, 0, 0};
        List<Cab> cabs = new ArrayList<>();
        List<Party> parties = new ArrayList<>();

        State copy() {
            State s = new State();
            s.now = now; s.flag = flag; s.rate = rate; s.rules = rules.clone();
            for (Cab c : cabs) s.cabs.add(c.copy());
            for (Party p : parties) s.parties.add(p.copy());
            return s;
        }
    }

    private String buffer = "";
    private int errorAt = -1;
    private int zones = 2;
    private Map<List<Integer>, Integer> roads = new HashMap<>();
    private State now = new State();
    private List<State> undo = new ArrayList<>();
    private State snapshot = null;
    private String formatted = null;

    // ---- texts

    public int feed(int a, int b, int c, int d, int e) {
        if (buffer.length() + 20 > 800) return -1;
        StringBuilder more = new StringBuilder(buffer);
        for (int x : new int[] {a, b, c, d, e}) {
            for (int i = 0; i < 4; i++) more.append((char) (x >>> (24 - 8 * i) & 0xff));
        }
        buffer = more.toString();
        return buffer.length();
    }

    private static final class Wrong extends RuntimeException {
        final int code;
        final int at;

        Wrong(int code, int at) {
            this.code = code;
            this.at = at;
        }
    }

    private static final class Reader {
        final List<String> tokens = new ArrayList<>();
        final List<Integer> places = new ArrayList<>();
        int at = 0;

        Reader(String text) {
            Matcher m = Pattern.compile("[a-z]+|[0-9]+|[^ \n]", Pattern.DOTALL).matcher(text);
            while (m.find()) {
                tokens.add(m.group());
                places.add(m.start());
            }
            tokens.add("");
            places.add(text.length());
        }

        String peek() {
            return tokens.get(at);
        }

        boolean ended() {
            return peek().isEmpty();
        }

        Wrong wrong(int code) {
            return new Wrong(code, places.get(at));
        }

        String take(String... allowed) {
            for (String one : allowed) {
                if (peek().equals(one)) {
                    at++;
                    return one;
                }
            }
            throw wrong(1);
        }

        int number(int least, int most) {
            if (!peek().matches("[0-9]+")) throw wrong(1);
            java.math.BigInteger value = new java.math.BigInteger(peek());
            if (value.compareTo(java.math.BigInteger.valueOf(least)) < 0
                    || value.compareTo(java.math.BigInteger.valueOf(most)) > 0) throw wrong(2);
            at++;
            return value.intValue();
        }
    }

    public int load(int length) {
        if (length < 0 || length > buffer.length()) throw new IllegalArgumentException();
        Reader in = new Reader(buffer.substring(0, length));
        buffer = "";
        errorAt = -1;
        State fresh = new State();
        Map<List<Integer>, Integer> freshRoads = new HashMap<>();
        int count;
        try {
            in.take("zones");
            count = in.number(2, 8);
            in.take(";");
            while (!in.ended()) {
                if (in.peek().equals("taxi") && fresh.cabs.size() == 4) throw in.wrong(3);
                String clause = in.take("road", "taxi", "tariff", "discount", "rule");
                if (clause.equals("road")) {
                    int a = in.number(0, count - 1);
                    int b = in.number(0, count - 1);
                    in.at--;
                    if (a == b || freshRoads.containsKey(List.of(a, b))) throw in.wrong(4);
                    in.at++;
                    int m = in.number(1, 99);
                    freshRoads.put(List.of(a, b), m);
                    freshRoads.put(List.of(b, a), m);
                } else if (clause.equals("taxi")) {
                    Cab cab = new Cab();
                    cab.seats = in.number(1, 6);
                    cab.zone = in.number(0, count - 1);
                    cab.begin = in.number(0, 2879);
                    cab.end = in.number(0, 2879);
                    in.at--;
                    if (cab.end <= cab.begin) throw in.wrong(4);
                    in.at++;
                    cab.free = cab.begin;
                    fresh.cabs.add(cab);
                } else if (clause.equals("tariff")) {
                    fresh.flag = in.number(0, 9999);
                    fresh.rate = in.number(0, 999);
                } else if (clause.equals("discount")) {
                    int k = in.number(2, 4);
                    fresh.rules[5 + k] = in.number(0, 90);
                } else {
                    int rule = List.of(RULES).indexOf(in.take(RULES));
                    fresh.rules[rule] = in.number(RANGES[rule][0], RANGES[rule][1]);
                }
                in.take(";");
            }
        } catch (Wrong e) {
            errorAt = e.at;
            return -10 - e.code;
        }
        zones = count;
        roads = freshRoads;
        now = fresh;
        undo.clear();
        snapshot = null;
        return now.cabs.size();
    }

    public int errorPosition() {
        return errorAt;
    }

    public int query(int length) {
        if (length < 0 || length > 200 || length > buffer.length()) throw new IllegalArgumentException();
        Reader in = new Reader(buffer.substring(0, length));
        buffer = "";
        errorAt = -1;
        try {
            boolean many = in.take("many", "first").equals("many");
            IntPredicate test = test(in, 0);
            if (!in.ended()) throw in.wrong(1);
            int count = 0;
            for (int i = 0; i < now.parties.size(); i++) {
                if (test.test(i)) {
                    if (!many) return i;
                    count++;
                }
            }
            return many ? count : -1;
        } catch (Wrong e) {
            errorAt = e.at;
            return -1000000000 - e.code;
        }
    }

    private IntPredicate test(Reader in, int open) {
        IntPredicate left = conjunction(in, open);
        while (in.peek().equals("or")) {
            in.at++;
            left = left.or(conjunction(in, open));
        }
        return left;
    }

    private IntPredicate conjunction(Reader in, int open) {
        IntPredicate left = factor(in, open);
        while (in.peek().equals("and")) {
            in.at++;
            left = left.and(factor(in, open));
        }
        return left;
    }

    private IntPredicate factor(Reader in, int open) {
        if (in.peek().equals("not") || in.peek().equals("(")) {
            if (open == 6) throw in.wrong(3);
            if (in.take("not", "(").equals("not")) return factor(in, open + 1).negate();
            IntPredicate inner = test(in, open + 1);
            in.take(")");
            return inner;
        }
        IntUnaryOperator a = value(in);
        String sign = in.take("<", "=", ">");
        IntUnaryOperator b = value(in);
        return switch (sign) {
            case "<" -> i -> a.applyAsInt(i) < b.applyAsInt(i);
            case "=" -> i -> a.applyAsInt(i) == b.applyAsInt(i);
            default -> i -> a.applyAsInt(i) > b.applyAsInt(i);
        };
    }

    private IntUnaryOperator value(Reader in) {
        if (in.peek().matches("[0-9]+")) {
            int n = in.number(0, 99999);
            return i -> n;
        }
        String word = in.take("ride", "state", "from", "to", "persons", "ready", "detour", "fare", "taxi");
        return i -> {
            Party p = now.parties.get(i);
            return switch (word) {
                case "ride" -> i;
                case "state" -> p.state;
                case "from" -> p.from;
                case "to" -> p.to;
                case "persons" -> p.persons;
                case "ready" -> p.ready;
                case "detour" -> p.limit;
                case "fare" -> p.paid;
                default -> p.taxi + 1;
            };
        };
    }

    public int format(int taxi) {
        Cab cab = cab(taxi);
        List<String> parts = new ArrayList<>();
        for (Stop s : cab.route) parts.add((s.pickup ? "+" : "-") + s.ride + "@" + zoneOf(s));
        formatted = parts.isEmpty() ? "." : String.join(" ", parts);
        return formatted.length();
    }

    public int formattedByte(int index) {
        return formatted == null || index < 0 || index >= formatted.length() ? -1 : formatted.charAt(index);
    }

    // ---- the town, parties and taxis

    private static void need(boolean there) {
        if (!there) throw new NoSuchElementException();
    }

    private static void range(int value, int least, int most) {
        if (value < least || value > most) throw new IllegalArgumentException();
    }

    private Cab cab(int taxi) {
        need(taxi >= 0 && taxi < now.cabs.size());
        return now.cabs.get(taxi);
    }

    private Party party(int ride) {
        need(ride >= 0 && ride < now.parties.size());
        return now.parties.get(ride);
    }

    private int zoneOf(Stop stop) {
        Party p = now.parties.get(stop.ride);
        return stop.pickup ? p.from : p.to;
    }

    /** Bellman and Ford: as many rounds as there are zones. */
    private int way(int a, int b) {
        int[] best = new int[zones];
        java.util.Arrays.fill(best, 1 << 20);
        best[a] = 0;
        for (int round = 0; round < zones; round++) {
            for (Map.Entry<List<Integer>, Integer> road : roads.entrySet()) {
                int x = road.getKey().get(0);
                int y = road.getKey().get(1);
                best[y] = Math.min(best[y], best[x] + road.getValue());
            }
        }
        return best[b] >= 1 << 20 ? -1 : best[b];
    }

    /** The legs of a route, or null if a way is missing. */
    private List<Leg> legs(Cab cab, List<Stop> route) {
        List<Leg> legs = new ArrayList<>();
        int zone = cab.zone;
        int free = cab.free;
        int stint = cab.stint;
        for (Stop stop : route) {
            Party p = now.parties.get(stop.ride);
            int m = way(zone, zoneOf(stop));
            if (m < 0) return null;
            int leaves = free;
            if (legs.isEmpty()) leaves = Math.max(leaves, now.now);
            if (stop.pickup) leaves = Math.max(leaves, p.ready - m);
            if (legs.isEmpty() && cab.left >= 0) leaves = cab.left;
            if (leaves - free >= now.rules[6]) stint = 0;
            stint += m;
            int arrives = leaves + m;
            int done = arrives + (stop.pickup && p.absent ? now.rules[3] : now.rules[1]);
            legs.add(new Leg(m, leaves, arrives, done, stint));
            zone = zoneOf(stop);
            free = done;
        }
        return legs;
    }

    private boolean keepsLimits(Cab cab, List<Stop> route) {
        if (route.isEmpty()) return true;
        List<Leg> legs = legs(cab, route);
        if (legs == null || legs.get(legs.size() - 1).done > cab.end) return false;
        List<Integer> aboard = new ArrayList<>(cab.aboard);
        Map<Integer, Integer> since = new HashMap<>();
        for (int ride : aboard) since.put(ride, now.parties.get(ride).pickedUp);
        for (int i = 0; i < route.size(); i++) {
            int persons = 0;
            for (int ride : aboard) persons += now.parties.get(ride).persons;
            if (persons > cab.seats || legs.get(i).stint > now.rules[5]) return false;
            Stop stop = route.get(i);
            Party p = now.parties.get(stop.ride);
            if (stop.pickup) {
                if (legs.get(i).arrives > p.latest) return false;
                since.put(stop.ride, legs.get(i).done);
                if (!p.absent) aboard.add(stop.ride);
            } else {
                if (legs.get(i).arrives > since.get(stop.ride) + p.most) return false;
                aboard.remove((Integer) stop.ride);
            }
        }
        return true;
    }

    private static int sum(List<Leg> legs) {
        int sum = 0;
        for (Leg leg : legs) sum += leg.minutes;
        return sum;
    }

    private Best best(Cab cab, int ride) {
        Best best = null;
        int before = sum(legs(cab, cab.route));
        for (int p = 0; p <= cab.route.size(); p++) {
            if (p == 0 && cab.left >= 0) continue;
            for (int d = p + 1; d <= cab.route.size() + 1; d++) {
                List<Stop> route = new ArrayList<>(cab.route);
                route.add(p, new Stop(ride, true));
                route.add(d, new Stop(ride, false));
                if (route.size() > 12 || !keepsLimits(cab, route)) continue;
                List<Leg> legs = legs(cab, route);
                Best one = new Best(route, sum(legs) - before, legs.get(p).arrives, legs.get(d).arrives);
                if (best == null || one.extra < best.extra
                        || one.extra == best.extra && one.pickup < best.pickup) best = one;
            }
        }
        return best;
    }

    private int[] shares(int minutes, int parties) {
        int[] shares = new int[parties];
        if (parties == 0) return shares;
        int price = minutes * now.rate;
        int percent = parties == 1 ? 0 : parties == 2 ? now.rules[7] : parties == 3 ? now.rules[8] : now.rules[9];
        int rest = price - price * percent / 100;
        for (int i = 0; i < parties; i++) {
            shares[i] = (rest + parties - i - 1) / (parties - i);
            rest -= shares[i];
        }
        return shares;
    }

    // ---- questions

    public int size(int what) {
        need(what >= 0 && what <= 8);
        int stops = 0;
        for (Cab c : now.cabs) stops += c.route.size();
        return new int[] {zones, roads.size() / 2, now.cabs.size(), now.parties.size(), now.now, rides(0), stops,
            now.flag, now.rate}[what];
    }

    public int rule(int rule) {
        need(rule >= 0 && rule <= 9);
        return now.rules[rule];
    }

    public int minutes(int a, int b) {
        need(a >= 0 && a < zones && b >= 0 && b < zones);
        return way(a, b);
    }

    public int taxi(int taxi, int what) {
        Cab c = cab(taxi);
        need(what >= 0 && what <= 9);
        int persons = 0;
        for (int ride : c.aboard) persons += now.parties.get(ride).persons;
        return new int[] {c.seats, c.zone, c.free, c.begin, c.end, c.route.size(), persons, c.aboard.size(), c.stint,
            c.left}[what];
    }

    public int account(int taxi, int what) {
        Cab c = cab(taxi);
        need(what >= 0 && what <= 5);
        return c.account[what];
    }

    public int stop(int taxi, int index, int what) {
        Cab c = cab(taxi);
        need(index >= 0 && index < c.route.size() && what >= 0 && what <= 5);
        Stop s = c.route.get(index);
        Leg leg = legs(c, c.route).get(index);
        return new int[] {s.ride, s.pickup ? 1 : 0, zoneOf(s), leg.leaves, leg.arrives, leg.done}[what];
    }

    public int ride(int ride, int what) {
        Party p = party(ride);
        need(what >= 0 && what <= 13);
        return new int[] {p.state, p.from, p.to, p.persons, p.ready, p.latest, p.limit, p.direct, p.most, p.taxi,
            p.pickedUp, p.arrived, p.paid, p.absent ? 1 : 0}[what];
    }

    public int offer(int ride, int what) {
        Party p = party(ride);
        need(what >= 0 && what <= 4);
        return p.state == 0 ? p.offer[what] : -1;
    }

    public int extra(int ride, int taxi) {
        Party p = party(ride);
        Cab c = cab(taxi);
        Best best = p.state == 0 ? best(c, ride) : null;
        return best == null ? -1 : best.extra;
    }

    public int fare(int ride) {
        Party p = party(ride);
        if (p.state != 1 && p.state != 2 || p.absent) return -1;
        State kept = now;
        now = now.copy();
        Cab c = now.cabs.get(p.taxi);
        while (now.parties.get(ride).state != 3) doStop(c, legs(c, c.route).get(0));
        int paid = now.parties.get(ride).paid;
        now = kept;
        return paid;
    }

    public int aloneFare(int from, int to) {
        need(from >= 0 && from < zones && to >= 0 && to < zones);
        return way(from, to) < 0 ? -1 : now.flag + way(from, to) * now.rate;
    }

    public boolean keeps(int taxi) {
        return keepsLimits(cab(taxi), cab(taxi).route);
    }

    public int routeMinutes(int taxi) {
        return sum(legs(cab(taxi), cab(taxi).route));
    }

    public int rides(int state) {
        range(state, 0, 6);
        int count = 0;
        for (Party p : now.parties) count += p.state == state ? 1 : 0;
        return count;
    }

    public double meanFare() {
        int sum = 0;
        for (Party p : now.parties) sum += p.state == 3 ? p.paid : 0;
        return rides(3) == 0 ? 0.0 : (double) sum / rides(3);
    }

    public float sharedPart() {
        int with = 0;
        int shared = 0;
        for (Cab c : now.cabs) {
            with += c.account[3];
            shared += c.account[4];
        }
        return with == 0 ? 0f : (float) shared / (float) with;
    }

    // ---- operations

    private void record(State before) {
        undo.add(before);
        if (undo.size() > 10) undo.remove(0);
    }

    public int ask(int from, int to, int persons, int delay, int detour) {
        need(from >= 0 && from < zones && to >= 0 && to < zones);
        range(persons, 1, 6);
        range(delay, 0, 600);
        range(detour, 0, 200);
        if (from == to) throw new IllegalArgumentException();
        if (now.parties.size() == 24) return -2;
        record(now.copy());
        Party p = new Party();
        p.from = from;
        p.to = to;
        p.persons = persons;
        p.limit = detour;
        p.ready = now.now + delay;
        p.latest = p.ready + now.rules[0];
        p.direct = way(from, to);
        p.most = p.direct < 0 ? -1 : p.direct + p.direct * detour / 100;
        p.state = 4;
        now.parties.add(p);
        Best found = null;
        for (int i = 0; i < now.cabs.size(); i++) {
            Best one = best(now.cabs.get(i), now.parties.size() - 1);
            if (one == null) continue;
            if (found == null || one.extra < found.extra || one.extra == found.extra && one.pickup < found.pickup) {
                found = one;
                p.state = 0;
                p.offer = new int[] {i, one.extra, one.pickup, one.drop, now.now + now.rules[2]};
            }
        }
        return now.parties.size() - 1;
    }

    public int accept(int ride) {
        Party p = party(ride);
        if (p.state != 0) return -2;
        Best best = best(now.cabs.get(p.offer[0]), ride);
        if (best == null) return -3;
        record(now.copy());
        now.cabs.get(p.offer[0]).route = best.route;
        p.state = 1;
        p.taxi = p.offer[0];
        return best.pickup;
    }

    public int decline(int ride) {
        Party p = party(ride);
        if (p.state != 0) return -2;
        record(now.copy());
        p.state = 4;
        return rides(0);
    }

    public int cancel(int ride) {
        Party p = party(ride);
        if (p.state != 1) return -2;
        Cab c = now.cabs.get(p.taxi);
        if (c.route.get(0).equals(new Stop(ride, true)) && c.left >= 0) return -3;
        record(now.copy());
        c.route.removeIf(s -> s.ride == ride);
        p.state = 6;
        return c.route.size();
    }

    public int absent(int ride) {
        Party p = party(ride);
        if (p.state != 1 || p.absent) return -2;
        record(now.copy());
        Cab c = now.cabs.get(p.taxi);
        c.route.remove(new Stop(ride, false));
        p.absent = true;
        return c.route.size();
    }

    public int advance(int minutes) {
        range(minutes, 1, 1440);
        if (now.now + minutes > 9999) return -2;
        record(now.copy());
        int until = now.now + minutes;
        int count = 0;
        for (Cab c : now.cabs) {
            while (!c.route.isEmpty()) {
                Leg leg = legs(c, c.route).get(0);
                if (leg.done <= until) {
                    doStop(c, leg);
                    count++;
                } else {
                    if (leg.leaves < until) c.left = leg.leaves;
                    break;
                }
            }
        }
        now.now = until;
        for (Party p : now.parties) if (p.state == 0 && until > p.offer[4]) p.state = 4;
        return count;
    }

    private void doStop(Cab c, Leg leg) {
        Stop stop = c.route.remove(0);
        Party p = now.parties.get(stop.ride);
        int[] shares = shares(leg.minutes, c.aboard.size());
        for (int i = 0; i < shares.length; i++) {
            now.parties.get(c.aboard.get(i)).paid += shares[i];
            c.account[0] += shares[i];
            c.account[5] += shares[i];
        }
        c.account[2] += leg.minutes;
        if (c.aboard.size() >= 1) c.account[3] += leg.minutes;
        if (c.aboard.size() >= 2) c.account[4] += leg.minutes;
        c.stint = leg.stint;
        c.zone = stop.pickup ? p.from : p.to;
        c.free = leg.done;
        c.left = -1;
        if (!stop.pickup) {
            p.state = 3;
            p.arrived = leg.arrives;
            c.aboard.remove((Integer) stop.ride);
            return;
        }
        p.pickedUp = leg.done;
        p.state = p.absent ? 5 : 2;
        int due = p.absent ? now.rules[4] : now.flag;
        p.paid += due;
        c.account[0] += due;
        if (!p.absent) c.aboard.add(stop.ride);
    }

    public int tip(int taxi, int cents) {
        Cab c = cab(taxi);
        range(cents, 1, 2000000000);
        if ((long) c.account[0] + cents > 2000000000L) return -5;
        record(now.copy());
        c = cab(taxi);
        c.account[0] += cents;
        c.account[1] += cents;
        return c.account[0];
    }

    public int setRate(int rate) {
        range(rate, 0, 999);
        record(now.copy());
        int before = now.rate;
        now.rate = rate;
        return before;
    }

    public int setEnd(int taxi, int end) {
        Cab c = cab(taxi);
        if (end <= c.begin || end > 2879) throw new IllegalArgumentException();
        record(now.copy());
        int before = c.end;
        c.end = end;
        return before;
    }

    public int setRule(int rule, int value) {
        need(rule >= 0 && rule <= 9);
        range(value, RANGES[rule][0], RANGES[rule][1]);
        record(now.copy());
        int before = now.rules[rule];
        now.rules[rule] = value;
        return before;
    }

    public int undoCount() {
        return undo.size();
    }

    public int undo() {
        if (undo.isEmpty()) return -1;
        now = undo.remove(undo.size() - 1);
        return undo.size();
    }

    public void saveSnapshot() {
        snapshot = now.copy();
    }

    public boolean restoreSnapshot() {
        if (snapshot == null) return false;
        now = snapshot.copy();
        undo.clear();
        return true;
    }
}
