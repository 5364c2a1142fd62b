/** What the tests share: comparing answers, feeding texts, and counting what is wrong. */
final class Check {
    /** A call whose answer is due to be an exception. */
    interface Call {
        void run();
    }

    private static int wrong = 0;

    private Check() { }

    static void due(String call, long got, long want) {
        if (got != want) {
            report(call + " answered " + got + ", due is " + want);
        }
    }

    static void dueNumber(String call, double got, double want) {
        if (got != want) {
            report(call + " answered " + got + ", due is " + want);
        }
    }

    static void dueText(String call, String got, String want) {
        if (!got.equals(want)) {
            report(call + " answered \"" + got + "\", due is \"" + want + "\"");
        }
    }

    static void noSuch(String call, Call run) {
        dueText(call, thrownBy(run), "java.util.NoSuchElementException");
    }

    static void illegal(String call, Call run) {
        dueText(call, thrownBy(run), "java.lang.IllegalArgumentException");
    }

    private static String thrownBy(Call run) {
        try {
            run.run();
            return "nothing";
        } catch (Throwable e) {
            return e.getClass().getName();
        }
    }

    private static void report(String line) {
        wrong++;
        StackTraceElement[] stack = new Throwable().getStackTrace();
        int at = 0;
        while (at < stack.length - 1 && stack[at].getClassName().equals("Check")) {
            at++;
        }
        System.out.println(stack[at] + ": " + line);
    }

    static void end() {
        System.out.println(wrong == 0 ? "all answers are as due" : wrong + " answers are not as due");
        if (wrong != 0) {
            System.exit(1);
        }
    }

    /** Feeds the text, filled up with blanks to a multiple of 20 bytes. */
    static void feed(SharedTaxis x, String text) {
        for (int i = 0; i < text.length(); i += 20) {
            int[] words = new int[5];
            for (int b = 0; b < 20; b++) {
                int sign = i + b < text.length() ? text.charAt(i + b) : ' ';
                words[b / 4] |= (sign & 255) << (24 - b % 4 * 8);
            }
            x.feed(words[0], words[1], words[2], words[3], words[4]);
        }
    }

    static int load(SharedTaxis x, String text) {
        feed(x, text);
        return x.load(text.length());
    }

    static int query(SharedTaxis x, String text) {
        feed(x, text);
        return x.query(text.length());
    }

    static SharedTaxis desk(String text) {
        SharedTaxis x = new SharedTaxis();
        if (load(x, text) < 0) {
            report("load(" + text + ") has an error at " + x.errorPosition());
        }
        return x;
    }

    static String format(SharedTaxis x, int taxi) {
        int length = x.format(taxi);
        StringBuilder text = new StringBuilder();
        for (int i = 0; i < length; i++) {
            text.append((char) x.formattedByte(i));
        }
        return text.toString();
    }

    /** Asks and accepts; returns the ride. */
    static int book(SharedTaxis x, int from, int to, int persons, int delay, int detour) {
        int ride = x.ask(from, to, persons, delay, detour);
        int arrival = x.accept(ride);
        if (arrival < 0) {
            report("ride " + ride + " is not booked: " + arrival);
        }
        return ride;
    }

    /** One text of answers, from the first kind of number to the last. */
    static String taxi(SharedTaxis x, int taxi) {
        StringBuilder text = new StringBuilder();
        for (int what = 0; what <= 9; what++) {
            text.append(what == 0 ? "" : " ").append(x.taxi(taxi, what));
        }
        return text.toString();
    }

    static String account(SharedTaxis x, int taxi) {
        StringBuilder text = new StringBuilder();
        for (int what = 0; what <= 5; what++) {
            text.append(what == 0 ? "" : " ").append(x.account(taxi, what));
        }
        return text.toString();
    }

    static String ride(SharedTaxis x, int ride) {
        StringBuilder text = new StringBuilder();
        for (int what = 0; what <= 13; what++) {
            text.append(what == 0 ? "" : " ").append(x.ride(ride, what));
        }
        return text.toString();
    }

    static String offer(SharedTaxis x, int ride) {
        StringBuilder text = new StringBuilder();
        for (int what = 0; what <= 4; what++) {
            text.append(what == 0 ? "" : " ").append(x.offer(ride, what));
        }
        return text.toString();
    }

    /** The times of a route: for each stop leaves/arrives/done. */
    static String times(SharedTaxis x, int taxi) {
        StringBuilder text = new StringBuilder();
        for (int i = 0; i < x.taxi(taxi, 5); i++) {
            text.append(i == 0 ? "" : " ").append(x.stop(taxi, i, 3)).append('/').append(x.stop(taxi, i, 4))
                .append('/').append(x.stop(taxi, i, 5));
        }
        return text.toString();
    }

    /** Everything that operations can change. */
    static String everything(SharedTaxis x) {
        StringBuilder text = new StringBuilder();
        for (int what = 0; what <= 8; what++) {
            text.append(x.size(what)).append(' ');
        }
        for (int rule = 0; rule <= 9; rule++) {
            text.append(x.rule(rule)).append(' ');
        }
        for (int i = 0; i < x.size(2); i++) {
            text.append("| ").append(taxi(x, i)).append(' ').append(account(x, i)).append(' ').append(times(x, i));
            for (int s = 0; s < x.taxi(i, 5); s++) {
                text.append(' ').append(x.stop(i, s, 0)).append(x.stop(i, s, 1) == 1 ? '+' : '-');
            }
        }
        for (int i = 0; i < x.size(3); i++) {
            text.append("| ").append(ride(x, i)).append(' ').append(offer(x, i)).append(' ').append(x.fare(i));
        }
        return text.toString();
    }
}
