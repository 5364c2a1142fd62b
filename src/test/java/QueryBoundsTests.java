/** Section 7 and promise 37 of the document: a test for each sentence that names a bound of queries. */
public final class QueryBoundsTests {
    public static void main(String[] args) {
        length();
        lengthOfBuffer();
        bufferBehind();
        everyByte();
        signsOneByOne();
        manyOrFirst();
        orAndAnd();
        notFactor();
        parentheses();
        comparisons();
        numberRange();
        numberOfRide();
        states();
        places();
        persons();
        ready();
        detour();
        fare();
        neverBooked();
        keepsTaxi();
        fourthTaxi();
        notAllowed();
        endsTooEarly();
        outOfRange();
        firstError();
        sixOpen();
        seventhOpen();
        openAtTheSameTime();
        notTillEndOfFactor();
        smallestCode();
        everyRide();
        noRide();
        changesNothing();
        errorResults();
        Check.end();
    }

    private static String filledUp(String text, int length) {
        StringBuilder filled = new StringBuilder(text);
        while (filled.length() < length) {
            filled.append(' ');
        }
        return filled.toString();
    }

    private static void length() {
        Check.says("Throws IllegalArgumentException if length is negative, greater than 200, ..");
        SharedTaxis x = Check.eightRides();
        Check.answers(x, filledUp("many ride=1", 200), 1);
        Check.feed(x, filledUp("many ride=1", 240));
        for (int length : new int[] {-1, 201, 240, Integer.MIN_VALUE, Integer.MAX_VALUE}) {
            Check.illegal("query", () -> x.query(length));
        }
        Check.due("nothing changes", x.feed(0, 0, 0, 0, 0), 260);
        Check.due("query", x.query(200), 1);
    }

    private static void lengthOfBuffer() {
        Check.says("or greater than the number of bytes in the buffer (nothing changes)");
        SharedTaxis x = Check.eightRides();
        Check.illegal("query", () -> x.query(1));
        Check.feed(x, "many ride=1");
        Check.illegal("query", () -> x.query(21));
        Check.due("query", x.query(20), 1);
        Check.due("query", x.query(0), -1000000001);
    }

    private static void bufferBehind() {
        Check.says("The buffer is empty afterwards, also after an error");
        SharedTaxis x = Check.eightRides();
        Check.feed(x, "many ride=1 and more than that");
        Check.due("query", x.query(11), 1);
        Check.due("feed", x.feed(0, 0, 0, 0, 0), 20);
        Check.due("query", x.query(20), -1000000001);
        Check.due("feed", x.feed(0, 0, 0, 0, 0), 20);
    }

    private static void everyByte() {
        Check.says("each of the bytes ( ) < = > is a token, too");
        SharedTaxis x = Check.eightRides();
        for (int sign = 0; sign < 256; sign++) {
            String text = "many 1" + (char) sign + "2";
            if (sign == '<') {
                Check.answers(x, text, 8);
            } else if (sign == '=' || sign == '>') {
                Check.answers(x, text, 0);
            } else if (sign >= '0' && sign <= '9') {
                Check.queryFails(x, text, 1, 8);
            } else {
                Check.queryFails(x, text, 1, sign == ' ' || sign == '\n' ? 7 : 6);
            }
        }
    }

    private static void signsOneByOne() {
        Check.says("each of the bytes ( ) < = > is a token, too");
        SharedTaxis x = Check.eightRides();
        Check.answers(x, "many((ride<3)and(ride>0))", 2);
        Check.answers(x, "many\n(\n(ride < 3 ) and ( ride>0) )", 2);
        for (String two : new String[] {"<=", "=<", ">=", "<>", "==", "<<"}) {
            Check.queryFails(x, "many ride" + two + "3", 1, 10);
        }
        Check.queryFails(x, "many ()ride=1", 1, 6);
        Check.queryFails(x, "many ride=1)(", 1, 11);
    }

    private static void manyOrFirst() {
        Check.says("query:       ('many' | 'first') test");
        SharedTaxis x = Check.eightRides();
        Check.answers(x, "many state=4", 2);
        Check.answers(x, "first state=4", 6);
        Check.queryFails(x, "state=4", 1, 0);
        Check.queryFails(x, "many first state=4", 1, 5);
        Check.queryFails(x, "manys state=4", 1, 0);
        Check.queryFails(x, "zones state=4", 1, 0);
        Check.queryFails(x, "rest state=4", 1, 0);
        Check.queryFails(x, "or state=4", 1, 0);
    }

    private static void orAndAnd() {
        Check.says("test: conjunction ('or' conjunction)*; conjunction: factor ('and' factor)*");
        SharedTaxis x = Check.eightRides();
        Check.answers(x, "many ride=0 or ride=1 and ride=2", 1);
        Check.answers(x, "many ride=2 and ride=1 or ride=0", 1);
        Check.answers(x, "many ride=0 or ride=1 and ride=1 or ride=2", 3);
        Check.answers(x, "many ride=0 and ride=0 and ride=1", 0);
        Check.answers(x, "many ride=0 or ride=0 or ride=1", 2);
        // As many factors as 200 bytes hold.
        StringBuilder or = new StringBuilder("many 1=2");
        StringBuilder and = new StringBuilder("many 1=1");
        for (int i = 0; i < 31; i++) {
            or.append("or 1=2");
            and.append("and1=1");
        }
        Check.due("length", or.length(), 194);
        Check.answers(x, or + "or1=1 ", 8);
        Check.answers(x, and + "and1=2", 0);
        Check.answers(x, and + "and1=1", 8);
    }

    private static void notFactor() {
        Check.says("factor:      'not' factor");
        SharedTaxis x = Check.eightRides();
        Check.answers(x, "many not ride=0", 7);
        Check.answers(x, "many not not ride=0", 1);
        Check.answers(x, "many not ride=0 and ride=1", 1);
        Check.answers(x, "many not ride=0 or ride=0", 8);
        Check.answers(x, "first not ride<7", 7);
        Check.answers(x, "first not ride<8", -1);
    }

    private static void parentheses() {
        Check.says("'(' test ')'");
        SharedTaxis x = Check.eightRides();
        Check.answers(x, "many (ride=0 or ride=1) and ride=2", 0);
        Check.answers(x, "many ride=2 and (ride=1 or ride=2)", 1);
        Check.answers(x, "many not (ride=0 or ride=1)", 6);
        Check.answers(x, "many not (ride=0 and ride=1)", 8);
    }

    private static void comparisons() {
        Check.says("value ('<' | '=' | '>') value");
        SharedTaxis x = Check.eightRides();
        Check.answers(x, "many ride<4", 4);
        Check.answers(x, "many ride=4", 1);
        Check.answers(x, "many ride>4", 3);
        Check.answers(x, "many 4<ride", 3);
        Check.answers(x, "many ride=ride", 8);
        Check.answers(x, "many ride<ride", 0);
        Check.answers(x, "many ride>ride", 0);
        Check.answers(x, "many 0=0", 8);
    }

    private static void numberRange() {
        Check.says("a number (0 to 99999)");
        SharedTaxis x = Check.eightRides();
        Check.answers(x, "many 99999 > 99998", 8);
        Check.answers(x, "many ride < 99999", 8);
        Check.answers(x, "many 0000000099999 = 99999", 8);
        Check.answers(x, "first ride = 0", 0);
        Check.queryFails(x, "many 100000 > 99998", 2, 5);
        Check.queryFails(x, "many ride < 100000", 2, 12);
        Check.queryFails(x, "many ride < 4294967296", 2, 12);
        Check.queryFails(x, "many ride < 18446744073709551617", 2, 12);
        Check.queryFails(x, "many ride < -1", 1, 12);
    }

    private static void numberOfRide() {
        Check.says("'ride' (its number)");
        SharedTaxis x = Check.eightRides();
        for (int ride = 0; ride < 8; ride++) {
            Check.answers(x, "first ride=" + ride, ride);
        }
        Check.answers(x, "first ride=8", -1);
    }

    private static void states() {
        Check.says("'state'");
        SharedTaxis x = Check.eightRides();
        int[] first = {5, 4, 3, 0, 6, 1, 2, -1};
        for (int state = 0; state <= 7; state++) {
            Check.answers(x, "first state=" + state, first[state]);
        }
    }

    private static void places() {
        Check.says("'from', 'to'");
        SharedTaxis x = Check.eightRides();
        Check.answers(x, "many from=0", 4);
        Check.answers(x, "many from=1", 3);
        Check.answers(x, "first from=2", 4);
        Check.answers(x, "first to=0", 4);
        Check.answers(x, "many to=1", 3);
        Check.answers(x, "first to=3", 6);
        Check.answers(x, "first from>to", 4);
    }

    private static void persons() {
        Check.says("'persons'");
        SharedTaxis x = Check.eightRides();
        Check.answers(x, "many persons=1", 5);
        Check.answers(x, "first persons=2", 4);
        Check.answers(x, "first persons=6", 6);
        Check.answers(x, "many persons<1", 0);
    }

    private static void ready() {
        Check.says("'ready'");
        SharedTaxis x = Check.eightRides();
        Check.answers(x, "first ready=0", 0);
        Check.answers(x, "first ready=12", 1);
        Check.answers(x, "first ready=46", 4);
        Check.answers(x, "first ready=616", 6);
    }

    private static void detour() {
        Check.says("'detour'");
        SharedTaxis x = Check.eightRides();
        Check.answers(x, "many detour=0", 5);
        Check.answers(x, "first detour=50", 4);
        Check.answers(x, "first detour=200", 6);
    }

    private static void fare() {
        Check.says("'fare' (what it paid or was charged)");
        SharedTaxis x = Check.eightRides();
        Check.answers(x, "first fare=300", 0);
        Check.answers(x, "first fare=70", 1);
        Check.answers(x, "first fare=100", 3);
        Check.answers(x, "many fare=0", 5);
    }

    private static void neverBooked() {
        Check.says("'taxi' (the number of its taxi plus 1, 0 if it was never booked; ..)");
        SharedTaxis x = Check.eightRides();
        Check.answers(x, "many taxi=0", 3);
        Check.answers(x, "first taxi=0", 5);
        Check.answers(x, "many taxi=0 and ride>4", 3);
        Check.answers(x, "many taxi=1", 5);
        Check.answers(x, "many taxi>1", 0);
    }

    private static void keepsTaxi() {
        Check.says("a ride that is cancelled, done or a no-show keeps its taxi");
        SharedTaxis x = Check.eightRides();
        Check.answers(x, "first state=6 and taxi=1", 2);
        Check.answers(x, "first state=3 and taxi=1", 0);
        Check.answers(x, "first state=5 and taxi=1", 1);
    }

    private static void fourthTaxi() {
        Check.says("the number of its taxi plus 1");
        SharedTaxis x = Check.desk("zones 2;road 0 1 9;taxi 1 0 0 99;taxi 2 0 0 99;taxi 3 0 0 99;taxi 4 0 0 99;");
        for (int taxi = 0; taxi < 4; taxi++) {
            Check.book(x, 0, 1, taxi + 1, 0, 0);
            Check.answers(x, "first taxi=" + (taxi + 1), taxi);
        }
        Check.answers(x, "many taxi=0 or taxi>4", 0);
    }

    private static final String[] TOKENS = {"many", "not", "(", "ride", "<", "9", "or", "state", "=", "to", ")", "and",
        "taxi", ">", "3"};

    private static String joined(int from, int to) {
        StringBuilder text = new StringBuilder();
        for (int i = from; i < to; i++) {
            text.append(TOKENS[i]).append(' ');
        }
        return text.toString();
    }

    /** Every token of a query in its turn, with something else in its place or ahead of it. */
    private static void notAllowed() {
        Check.says("Error codes are 1 and 2 of section 6; 1 The token is invalid or not allowed here");
        SharedTaxis x = Check.eightRides();
        Check.answers(x, joined(0, TOKENS.length), 0);
        for (int i = 0; i < TOKENS.length; i++) {
            for (String other : new String[] {";", "?", "zones", "road", "wait", "rest", "x", "many", "first", "Ride"}) {
                if (i > 0 || !other.equals("many") && !other.equals("first")) {
                    String text = joined(0, i);
                    Check.queryFails(x, text + other + " " + joined(i + 1, TOKENS.length), 1, text.length());
                }
            }
        }
    }

    private static void endsTooEarly() {
        Check.says("or the text ends too early (the position is then the length of the text)");
        SharedTaxis x = Check.eightRides();
        for (int i = 0; i < TOKENS.length; i++) {
            String text = joined(0, i);
            if (i == 11) {
                Check.answers(x, text, 0);
            } else {
                Check.queryFails(x, text, 1, text.length());
                Check.queryFails(x, text.trim(), 1, text.trim().length());
                Check.queryFails(x, text + "\n ", 1, text.length() + 2);
            }
        }
    }

    private static void outOfRange() {
        Check.says("Error codes are 1 and 2 of section 6; 2 A number that is out of range");
        SharedTaxis x = Check.eightRides();
        Check.queryFails(x, "first not 100000 < ?", 2, 10);
        Check.queryFails(x, "first 0 = 00100000", 2, 10);
        // Where no number is allowed, its range does not count.
        Check.queryFails(x, "first 100000", 2, 6);
        Check.queryFails(x, "100000 first", 1, 0);
        Check.queryFails(x, "first ride 100000", 1, 11);
        Check.queryFails(x, "first ride = 1 100000", 1, 15);
    }

    private static void firstError() {
        Check.says("The first error along the text is reported");
        SharedTaxis x = Check.eightRides();
        Check.queryFails(x, "first ride = 100000 ?", 2, 13);
        Check.queryFails(x, "first ride = ? 100000", 1, 13);
        Check.queryFails(x, "first ((((((( ?", 3, 12);
        Check.queryFails(x, "first (((((( ? (", 1, 13);
        Check.queryFails(x, "first (((((( 100000 = 1 (", 2, 13);
    }

    private static void sixOpen() {
        Check.says("3 for a 'not' or '(' that would be the seventh one open at the same time");
        SharedTaxis x = Check.eightRides();
        Check.answers(x, "many not not not not not not ride=0", 1);
        Check.answers(x, "many ((((((ride=0))))))", 1);
        Check.answers(x, "many (not(not(not ride=0)))", 7);
        Check.answers(x, "many not(not(not(ride=0)))", 7);
    }

    private static void seventhOpen() {
        Check.says("3 for a 'not' or '(' that would be the seventh one open at the same time");
        SharedTaxis x = Check.eightRides();
        Check.queryFails(x, "many not not not not not not not ride=0", 3, 29);
        Check.queryFails(x, "many not not not not not not (ride=0)", 3, 29);
        Check.queryFails(x, "many (((((((ride=0)))))))", 3, 11);
        Check.queryFails(x, "many ((((((not ride=0))))))", 3, 11);
        Check.queryFails(x, "many ((((((ride=0 or not ride=1))))))", 3, 21);
        Check.queryFails(x, "many ((((((ride=0 and (ride=1)))))))", 3, 22);
        Check.queryFails(x, "many (((((((((((((((((((((((((((((((((((((((((((((((((((((((((((((", 3, 11);
    }

    private static void openAtTheSameTime() {
        Check.says("open at the same time");
        SharedTaxis x = Check.eightRides();
        Check.answers(x, "many ((((((ride=0)))))) or ((((((ride=1))))))", 2);
        Check.answers(x, "many (((((ride=0)and(ride=0)or(ride=1)))))", 2);
        Check.answers(x, "many (1=1)and(1=1)and(1=1)and(1=1)and(1=1)and(1=1)and(1=1)and(1=1)", 8);
    }

    private static void notTillEndOfFactor() {
        Check.says("A 'not' is open until the end of its factor");
        SharedTaxis x = Check.eightRides();
        Check.answers(x, "many not not not not not not ride=0 and not ride=1", 1);
        Check.answers(x, "many not 1=2 and not 1=2 and not 1=2 and not 1=2 and not 1=2 and not 1=2 and not 1=2", 8);
        Check.answers(x, "many (((((not ride=0 and (ride=1))))))", 1);
        Check.answers(x, "many (((((not ride=0 or not ride=1)))))", 8);
        // The factor of this 'not' ends behind the ')', so it is open within.
        Check.queryFails(x, "many (((((not (ride=1))))))", 3, 14);
        Check.queryFails(x, "many not not not not not (not ride=0)", 3, 26);
        Check.answers(x, "many not not not not (not ride=0) and ((((((ride=1))))))", 1);
    }

    private static void smallestCode() {
        Check.says("if several codes apply to one token, the smallest one");
        SharedTaxis x = Check.eightRides();
        // A seventh '(' or 'not' where none is allowed.
        Check.queryFails(x, "many ((((((ride=(0))))))", 1, 16);
        Check.queryFails(x, "many ((((((ride=not 0))))))", 1, 16);
        Check.queryFails(x, "many ((((((ride(", 1, 15);
        Check.queryFails(x, "many ((((((ride=0(", 1, 17);
        Check.queryFails(x, "many ((((((ride=0 not", 1, 18);
    }

    private static void everyRide() {
        Check.says("evaluates it for every ride in ascending order");
        SharedTaxis x = new SharedTaxis();
        for (int ride = 0; ride < 24; ride++) {
            x.ask(0, 1, 1, ride, 0);
            Check.answers(x, "many 1=1", ride + 1);
        }
        Check.answers(x, "many ride=23", 1);
        Check.answers(x, "first ride=23", 23);
        Check.answers(x, "first ready=23", 23);
        Check.answers(x, "first ride>23", -1);
        Check.answers(x, "many not ride=23", 23);
        Check.answers(x, "first ride>4 and state=4", 5);
    }

    private static void noRide() {
        Check.says("Returns for 'many' the number of rides ..; for 'first' the smallest such ride, or NONE");
        SharedTaxis x = new SharedTaxis();
        Check.answers(x, "many 1=1", 0);
        Check.answers(x, "many not 1=2", 0);
        Check.answers(x, "first 1=1", -1);
        Check.answers(x, "first not 1=2", -1);
        Check.answers(Check.eightRides(), "first 1=1", 0);
        Check.answers(Check.eightRides(), "first 1=2", -1);
        Check.answers(Check.eightRides(), "many 1=2", 0);
    }

    private static void changesNothing() {
        Check.says("Reads the first bytes of the buffer as a query and evaluates it");
        SharedTaxis x = Check.eightRides();
        x.saveSnapshot();
        String before = Check.everything(x);
        int undo = x.undoCount();
        Check.answers(x, "many ride=1", 1);
        Check.query(x, "many ride=");
        Check.dueText("everything", Check.everything(x), before);
        Check.due("undoCount", x.undoCount(), undo);
        Check.due("restoreSnapshot", x.restoreSnapshot() ? 1 : 0, 1);
    }

    private static void errorResults() {
        Check.says("HIDDEN minus the error code if the text has an error");
        SharedTaxis x = Check.eightRides();
        Check.due("query", Check.query(x, ""), SharedTaxis.HIDDEN - 1);
        Check.due("query", Check.query(x, "many 100000=1"), SharedTaxis.HIDDEN - 2);
        Check.due("query", Check.query(x, "many not not not not not not not"), SharedTaxis.HIDDEN - 3);
        Check.due("HIDDEN", SharedTaxis.HIDDEN, -1000000000);
    }
}
