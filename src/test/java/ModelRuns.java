import java.lang.reflect.InvocationTargetException;
import java.lang.reflect.Method;
import java.util.ArrayList;
import java.util.Arrays;
import java.util.HashMap;
import java.util.List;
import java.util.Map;
import java.util.Random;

/** Random runs of calls, each of them answered by SharedTaxis and by the model; the seeds are fixed. */
public final class ModelRuns {
    private static final Map<String, Method> REAL = new HashMap<>();
    private static final Map<String, Method> PLAIN = new HashMap<>();

    private final Random random;
    private final SharedTaxis real = new SharedTaxis();
    private final Model plain = new Model();
    private final List<String> calls = new ArrayList<>();
    private final Map<String, Integer> seen;
    private boolean good = true;

    private ModelRuns(long seed, Map<String, Integer> seen) {
        random = new Random(seed);
        this.seen = seen;
    }

    public static void main(String[] args) throws Exception {
        int runs = args.length > 0 ? Integer.parseInt(args[0]) : 400;
        long first = args.length > 1 ? Long.parseLong(args[1]) : 1;
        for (Method m : SharedTaxis.class.getMethods()) REAL.put(m.getName(), m);
        for (Method m : Model.class.getMethods()) PLAIN.put(m.getName(), m);
        Map<String, Integer> seen = new HashMap<>();
        int wrong = 0;
        for (int i = 0; i < runs && wrong < 3; i++) {
            ModelRuns run = new ModelRuns(first + i, seen);
            run.play(200);
            if (!run.good) {
                wrong++;
                System.out.println("seed " + (first + i) + ": " + String.join("; ", run.calls));
            }
        }
        if (args.length > 2) for (String key : new java.util.TreeSet<>(seen.keySet())) System.out.println(key + " " + seen.get(key));
        System.out.println(wrong == 0 ? "the runs are as in the model" : "runs differ from the model");
        if (wrong > 0) System.exit(1);
    }

    private int below(int n) {
        return random.nextInt(n);
    }

    private static String outcome(Method m, Object on, Object[] args) throws Exception {
        try {
            return String.valueOf(m.invoke(on, args));
        } catch (InvocationTargetException e) {
            return e.getCause().getClass().getSimpleName();
        }
    }

    private String call(String name, Object... args) throws Exception {
        String a = outcome(REAL.get(name), real, args);
        String b = outcome(PLAIN.get(name), plain, args);
        if (good) {
            String text = name + Arrays.toString(args) + "=" + a;
            calls.add(a.equals(b) ? text : text + " BUT " + b);
            good = a.equals(b);
        }
        String kind = name + " " + (a.matches("-[0-9]+") ? a : a.matches("[A-Z].*") ? a : "ok");
        seen.merge(kind, 1, Integer::sum);
        return a;
    }

    private void feed(String text) throws Exception {
        StringBuilder padded = new StringBuilder(text);
        while (padded.length() % 20 != 0) padded.append(below(2) == 0 ? ' ' : ';');
        for (int i = 0; i < padded.length(); i += 20) {
            Object[] words = new Object[5];
            for (int w = 0; w < 5; w++) {
                int word = 0;
                for (int b = 0; b < 4; b++) word = word << 8 | padded.charAt(i + 4 * w + b) & 255;
                words[w] = word;
            }
            call("feed", words);
        }
    }

    private String town() {
        int zones = 2 + below(7);
        StringBuilder t = new StringBuilder("zones " + zones + ";");
        List<String> clauses = new ArrayList<>();
        int longest = below(2) == 0 ? 12 : 99;
        for (int a = 0; a < zones; a++) {
            for (int b = 0; b < a; b++) {
                if (below(zones) < 3 || b == a - 1 && below(9) > 0) {
                    clauses.add(below(2) == 0 ? "road " + a + " " + b + " " + (1 + below(longest))
                        : "road " + b + " " + a + " " + (1 + below(longest)));
                }
            }
        }
        int taxis = below(8) == 0 ? below(6) : 1 + below(3);
        for (int i = 0; i < taxis; i++) {
            int begin = below(3) == 0 ? below(300) : 0;
            clauses.add("taxi " + (1 + below(6)) + " " + below(zones) + " " + begin + " " + (begin + 1 + below(2879 - begin)));
        }
        if (below(5) > 0) clauses.add("tariff " + below(500) + " " + below(below(2) == 0 ? 100 : 1000));
        for (int k = 2; k <= 4; k++) if (below(2) == 0) clauses.add("discount " + k + " " + below(91));
        String[] rules = {"wait", "dwell", "offer", "patience", "fee", "stint", "rest"};
        int[] most = {60, 9, 60, 30, 9999, 400, 99};
        for (int i = 0; i < 7; i++) if (below(3) == 0) clauses.add("rule " + rules[i] + " " + (1 + below(most[i])));
        if (below(2) == 0) clauses.add("rule wait 60");
        java.util.Collections.shuffle(clauses, random);
        for (String c : clauses) t.append(below(2) == 0 ? " " : "\n").append(c).append(";");
        return t.toString();
    }

    private String spoil(String text) {
        StringBuilder t = new StringBuilder(text);
        int changes = 1 + below(2);
        String signs = "0123456789;; \nabz()<=>A\u0000\u00e9/:`{";
        for (int i = 0; i < changes && t.length() > 0; i++) {
            int at = below(t.length());
            char sign = signs.charAt(below(signs.length()));
            int kind = below(4);
            if (kind == 0) t.setCharAt(at, sign);
            else if (kind == 1) t.insert(at, sign);
            else if (kind == 2) t.deleteCharAt(at);
            else {
                String[] words = {" road ", " taxi ", " rule ", " not ", " ( ", " and ", " or ", " ride ", " 99999999999999999999 ", " 100000 ", " 0000000000000000001 ", ") "};
                t.insert(at, words[below(words.length)]);
            }
        }
        return t.toString();
    }

    private String value() {
        String[] words = {"ride", "state", "from", "to", "persons", "ready", "detour", "fare", "taxi"};
        if (below(2) == 0) return words[below(9)];
        return String.valueOf(below(8) == 0 ? below(100000) : below(6));
    }

    private String factor(int depth) {
        int kind = below(depth > 0 ? 4 : 2);
        if (kind == 2) return "not " + factor(depth - 1);
        if (kind == 3) return "(" + test(depth - 1) + ")";
        return value() + "<=>".charAt(below(3)) + value();
    }

    private String test(int depth) {
        StringBuilder t = new StringBuilder(factor(depth));
        while (below(3) == 0) t.append(below(2) == 0 ? " and " : " or ").append(factor(depth));
        return t.toString();
    }

    private int some(int most) {
        int kind = below(40);
        if (kind == 0) return -1;
        if (kind == 1) return most + 1;
        if (kind == 2) return new int[] {Integer.MIN_VALUE, Integer.MAX_VALUE, 1000, -1000}[below(4)];
        return below(most + 1);
    }

    private void play(int length) throws Exception {
        if (below(20) > 0) load(town());
        for (int i = 0; i < length && good; i++) {
            operate();
            if (below(6) == 0) lookAtAll();
            look();
        }
    }

    private void load(String text) throws Exception {
        feed(text);
        call("load", text.length());
        call("errorPosition");
    }

    private void ask() throws Exception {
        int zones = real.size(0);
        int detour = below(3) == 0 ? some(200) : 200;
        int delay = below(2) == 0 ? 0 : below(4) == 0 ? some(600) : below(60);
        String answer = call("ask", some(zones - 1), some(zones - 1), below(3) == 0 ? some(6) : 1, delay, detour);
        if (answer.matches("[0-9]+") && below(4) > 0) call("accept", Integer.parseInt(answer));
    }

    private void operate() throws Exception {
        int rides = Math.max(0, real.size(3) - 1);
        int taxis = Math.max(0, real.size(2) - 1);
        switch (below(24)) {
            case 0, 1, 2, 3, 4, 5, 6 -> ask();
            case 7 -> call("accept", some(rides));
            case 8 -> call(below(3) == 0 ? "decline" : "accept", some(rides));
            case 9 -> call("cancel", some(rides));
            case 10 -> call("absent", some(rides));
            case 11, 12, 13, 14 -> call("advance", 1 + below(12));
            case 15 -> call("advance", below(2) == 0 ? some(1440) : 1 + below(60));
            case 16 -> call("tip", some(taxis), below(2) == 0 ? some(2000000000) : 1 + below(300));
            case 17 -> call("setRate", some(999));
            case 18 -> call("setEnd", some(taxis), below(2) == 0 ? 2879 : some(2879));
            case 19 -> setRule();
            case 20 -> {
                for (int n = 1 + below(below(2) == 0 ? 3 : 12); n > 0; n--) call("undo");
            }
            case 21 -> {
                if (below(4) == 0) call("saveSnapshot");
                if (below(6) == 0) call("restoreSnapshot");
            }
            case 22 -> {
                if (below(12) == 0) load(town());
                else if (below(3) == 0) load(spoil(town()));
                else if (below(9) == 0) call("load", some(800));
            }
            default -> ask();
        }
        call("undoCount");
    }

    private void setRule() throws Exception {
        int[] most = {60, 9, 60, 30, 9999, 999, 99, 90, 90, 90};
        int rule = some(9);
        call("setRule", rule, rule >= 0 && rule < 10 ? some(most[rule]) : 0);
    }

    private void look() throws Exception {
        int rides = Math.max(0, real.size(3) - 1);
        int taxis = Math.max(0, real.size(2) - 1);
        int zones = real.size(0) - 1;
        switch (below(9)) {
            case 0 -> call("size", some(8));
            case 1 -> call("rule", some(9));
            case 2 -> call("minutes", some(zones), some(zones));
            case 3 -> call("aloneFare", some(zones), some(zones));
            case 4 -> call("extra", some(rides), some(taxis));
            case 5 -> call("rides", some(6));
            case 6 -> {
                String text = (below(2) == 0 ? "many " : "first ") + test(4);
                if (below(3) == 0) text = spoil(text);
                if (below(9) == 0) text = "many " + "not ( ".repeat(below(5)) + test(1) + " )".repeat(below(5));
                feed(text);
                call("query", text.length());
                call("errorPosition");
            }
            case 7 -> {
                call("stop", some(taxis), some(12), some(5));
                call("offer", some(rides), some(4));
                call("ride", some(rides), some(13));
                call("taxi", some(taxis), some(9));
                call("account", some(taxis), some(5));
                call("fare", some(rides));
                call("keeps", some(taxis));
                call("routeMinutes", some(taxis));
            }
            default -> {
                String bytes = call("format", some(taxis));
                call("formattedByte", some(bytes.matches("[0-9]+") ? Integer.parseInt(bytes) : 70));
            }
        }
    }

    private void lookAtAll() throws Exception {
        for (int what = 0; what <= 8; what++) call("size", what);
        for (int t = 0; t < real.size(2); t++) {
            for (int what = 0; what <= 9; what++) call("taxi", t, what);
            for (int what = 0; what <= 5; what++) call("account", t, what);
            seen.merge("keeps=" + call("keeps", t) + " with stops " + real.taxi(t, 5), 1, Integer::sum);
            seen.merge("parties aboard " + real.taxi(t, 7), 1, Integer::sum);
            call("routeMinutes", t);
            for (int i = 0; i < real.taxi(t, 5); i++) for (int what = 0; what <= 5; what++) call("stop", t, i, what);
            int bytes = Integer.parseInt(call("format", t));
            for (int i = -1; i <= bytes; i++) call("formattedByte", i);
        }
        for (int r = 0; r < real.size(3); r++) {
            for (int what = 0; what <= 13; what++) call("ride", r, what);
            for (int what = 0; what <= 4; what++) call("offer", r, what);
            call("fare", r);
            for (int t = 0; t < real.size(2); t++) call("extra", r, t);
        }
        call("meanFare");
        call("sharedPart");
    }
}
