/** What the tests share: comparing answers, feeding texts, and counting what is wrong. */
final class Check {
    /** A call whose answer is due to be an exception. */
    interface Call {
        void run();
    }

    private static int wrong = 0;
    private static String sentence = "";

    private Check() { }

    /** Names the sentence of the document that the calls from here on test. */
    static void says(String words) {
        sentence = words;
    }

    static void due(String call, long got, long want) {
        if (got != want) {
            report(call + " answered " + got + ", due is " + want);
        }
    }

    static void dueNumber(String call, double got, double want) {
        if (got != want) {
            report(call + " answered " + got + ", due is " + want);
        }
    }

    static void dueText(String call, String got, String want) {
        if (!got.equals(want)) {
            report(call + " answered \"" + got + "\", due is \"" + want + "\"");
        }
    }

    static void noSuch(String call, Call run) {
        dueText(call, thrownBy(run), "java.util.NoSuchElementException");
    }

    static void illegal(String call, Call run) {
        dueText(call, thrownBy(run), "java.lang.IllegalArgumentException");
    }

    private static String thrownBy(Call run) {
        try {
            run.run();
            return "nothing";
        } catch (Throwable e) {
            return e.getClass().getName();
        }
    }

    private static void report(String line) {
        wrong++;
        StackTraceElement[] stack = new Throwable().getStackTrace();
        int at = 0;
        while (at < stack.length - 1 && stack[at].getClassName().equals("Check")) {
            at++;
        }
        System.out.println(stack[at] + ": " + line);
        if (!sentence.isEmpty()) {
            System.out.println("    The document says: " + sentence);
        }
    }

    static void end() {
        System.out.println(wrong == 0 ? "all answers are as due" : wrong + " answers are not as due");
        if (wrong != 0) {
            System.exit(1);
        }
    }

    /** Feeds the text, filled up with blanks to a multiple of 20 bytes. */
    static void feed(SharedTaxis x, String text) {
        for (int i = 0; i < text.length(); i += 20) {
            int[] words = new int[5];
            for (int b = 0; b < 20; b++) {
                int sign = i + b < text.length() ? text.charAt(i + b) : ' ';
                words[b / 4] |= (sign & 255) << (24 - b % 4 * 8);
            }
            x.feed(words[0], words[1], words[2], words[3], words[4]);
        }
    }

    static int load(SharedTaxis x, String text) {
        feed(x, text);
        return x.load(text.length());
    }

    static int query(SharedTaxis x, String text) {
        feed(x, text);
        return x.query(text.length());
    }

    static SharedTaxis desk(String text) {
        SharedTaxis x = new SharedTaxis();
        if (load(x, text) < 0) {
            report("load(" + text + ") has an error at " + x.errorPosition());
        }
        return x;
    }

    static void loadFails(String text, int code, int position) {
        SharedTaxis x = new SharedTaxis();
        due("load(" + text + ")", load(x, text), -10 - code);
        due("errorPosition behind load(" + text + ")", x.errorPosition(), position);
    }

    static void answers(SharedTaxis x, String text, int want) {
        due("query(" + text + ")", query(x, text), want);
        due("errorPosition behind query(" + text + ")", x.errorPosition(), -1);
    }

    static void queryFails(SharedTaxis x, String text, int code, int position) {
        due("query(" + text + ")", query(x, text), -1000000000 - code);
        due("errorPosition behind query(" + text + ")", x.errorPosition(), position);
    }

    static String format(SharedTaxis x, int taxi) {
        int length = x.format(taxi);
        StringBuilder text = new StringBuilder();
        for (int i = 0; i < length; i++) {
            text.append((char) x.formattedByte(i));
        }
        return text.toString();
    }

    /** Asks and accepts; returns the ride. */
    static int book(SharedTaxis x, int from, int to, int persons, int delay, int detour) {
        int ride = x.ask(from, to, persons, delay, detour);
        int arrival = x.accept(ride);
        if (arrival < 0) {
            report("ride " + ride + " is not booked: " + arrival);
        }
        return ride;
    }

    /** Rides 0 done, 1 a no-show, 2 cancelled, 3 aboard, 4 booked, 5 offered, 6 refused and 7 declined. */
    static SharedTaxis eightRides() {
        SharedTaxis x = desk("zones 4;road 0 1 10;road 1 2 5;road 0 2 20;taxi 4 0 0 1000;tariff 100 20;rule fee 70;");
        book(x, 0, 1, 1, 0, 0);
        x.advance(12);
        x.absent(book(x, 1, 2, 1, 0, 0));
        x.advance(3);
        x.cancel(book(x, 1, 2, 1, 0, 0));
        book(x, 1, 2, 1, 0, 0);
        x.advance(1);
        book(x, 2, 0, 2, 30, 50);
        x.ask(0, 1, 3, 60, 7);
        x.ask(0, 3, 6, 600, 200);
        x.ask(0, 1, 1, 100, 0);
        x.decline(7);
        int[] states = {3, 5, 6, 2, 1, 0, 4, 4};
        for (int i = 0; i < states.length; i++) {
            due("state of ride " + i, x.ride(i, 0), states[i]);
        }
        return x;
    }

    /** A call that is refused: it leaves everything as it is, and what can be undone. */
    static void changesNothing(String call, SharedTaxis x, Call run) {
        String before = everything(x);
        int undo = x.undoCount();
        int error = x.errorPosition();
        thrownBy(run);
        dueText("everything behind " + call, everything(x), before);
        due("undoCount behind " + call, x.undoCount(), undo);
        due("errorPosition behind " + call, x.errorPosition(), error);
    }

    /** One text of answers, from the first kind of number to the last. */
    static String taxi(SharedTaxis x, int taxi) {
        StringBuilder text = new StringBuilder();
        for (int what = 0; what <= 9; what++) {
            text.append(what == 0 ? "" : " ").append(x.taxi(taxi, what));
        }
        return text.toString();
    }

    static String account(SharedTaxis x, int taxi) {
        StringBuilder text = new StringBuilder();
        for (int what = 0; what <= 5; what++) {
            text.append(what == 0 ? "" : " ").append(x.account(taxi, what));
        }
        return text.toString();
    }

    static String ride(SharedTaxis x, int ride) {
        StringBuilder text = new StringBuilder();
        for (int what = 0; what <= 13; what++) {
            text.append(what == 0 ? "" : " ").append(x.ride(ride, what));
        }
        return text.toString();
    }

    static String offer(SharedTaxis x, int ride) {
        StringBuilder text = new StringBuilder();
        for (int what = 0; what <= 4; what++) {
            text.append(what == 0 ? "" : " ").append(x.offer(ride, what));
        }
        return text.toString();
    }

    /** The times of a route: for each stop leaves/arrives/done. */
    static String times(SharedTaxis x, int taxi) {
        StringBuilder text = new StringBuilder();
        for (int i = 0; i < x.taxi(taxi, 5); i++) {
            text.append(i == 0 ? "" : " ").append(x.stop(taxi, i, 3)).append('/').append(x.stop(taxi, i, 4))
                .append('/').append(x.stop(taxi, i, 5));
        }
        return text.toString();
    }

    /** Everything that operations can change. */
    static String everything(SharedTaxis x) {
        StringBuilder text = new StringBuilder();
        for (int what = 0; what <= 8; what++) {
            text.append(x.size(what)).append(' ');
        }
        for (int rule = 0; rule <= 9; rule++) {
            text.append(x.rule(rule)).append(' ');
        }
        for (int i = 0; i < x.size(2); i++) {
            text.append("| ").append(taxi(x, i)).append(' ').append(account(x, i)).append(' ').append(times(x, i));
            for (int s = 0; s < x.taxi(i, 5); s++) {
                text.append(' ').append(x.stop(i, s, 0)).append(x.stop(i, s, 1) == 1 ? '+' : '-');
            }
        }
        for (int i = 0; i < x.size(3); i++) {
            text.append("| ").append(ride(x, i)).append(' ').append(offer(x, i)).append(' ').append(x.fare(i));
        }
        return text.toString();
    }
}
