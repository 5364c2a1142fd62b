/** Sections 1 and 6 of the document: a test for each sentence that names a bound of the town or of its text. */
public final class TownBoundsTests {
    private static final String FOUR_TAXIS = "zones 2;taxi 1 0 0 9;taxi 1 0 0 9;taxi 1 0 0 9;taxi 1 0 0 9;";
    private static final String EVERY_CLAUSE =
        "zones 4;road 0 1 5;taxi 1 2 0 9;tariff 6 7;discount 3 8;rule fee 9;rule wait 1;";

    public static void main(String[] args) {
        zoneCount();
        zonesFromNone();
        roadMinutes();
        everyRoad();
        leastSum();
        wayToItself();
        noWay();
        timesFromNone();
        ruleRanges();
        rulesAtFirst();
        tariffRange();
        tariffAtFirst();
        discountRange();
        discountsAtFirst();
        words();
        numbers();
        longNumbers();
        separators();
        everyOtherByte();
        clauses();
        noClause();
        lastTariff();
        lastDiscount();
        lastRule();
        firstError();
        smallestCode();
        tokenNotAllowed();
        tokenTooMany();
        endsTooEarly();
        outOfRange();
        fifthTaxi();
        sameZones();
        roadAgain();
        endOfShift();
        Check.end();
    }

    // ---- 1. The town

    private static void zoneCount() {
        Check.says("There are 2 to 8 zones");
        Check.loadFails("zones 0;", 2, 6);
        Check.loadFails("zones 1;", 2, 6);
        Check.due("zones", Check.desk("zones 2;").size(0), 2);
        Check.due("zones", Check.desk("zones 8;").size(0), 8);
        Check.loadFails("zones 9;", 2, 6);
    }

    private static void zonesFromNone() {
        Check.says("zones, numbered from 0");
        for (int zones = 2; zones <= 8; zones++) {
            SharedTaxis x = Check.desk("zones " + zones + ";");
            int last = zones - 1;
            Check.due("minutes", x.minutes(0, 0), 0);
            Check.due("minutes", x.minutes(last, last), 0);
            Check.noSuch("minutes", () -> x.minutes(-1, 0));
            Check.noSuch("minutes", () -> x.minutes(last + 1, 0));
        }
    }

    private static void roadMinutes() {
        Check.says("each with the minutes (1 to 99) that it takes in both directions");
        Check.loadFails("zones 2;road 0 1 0;", 2, 17);
        Check.loadFails("zones 2;road 0 1 100;", 2, 17);
        SharedTaxis x = Check.desk("zones 3;road 0 1 1;road 2 1 99;");
        Check.due("minutes", x.minutes(0, 1), 1);
        Check.due("minutes", x.minutes(1, 0), 1);
        Check.due("minutes", x.minutes(1, 2), 99);
        Check.due("minutes", x.minutes(2, 1), 99);
    }

    private static void everyRoad() {
        Check.says("roads between two zones");
        StringBuilder text = new StringBuilder("zones 8;");
        for (int a = 0; a < 8; a++) {
            for (int b = a + 1; b < 8; b++) {
                text.append("road ").append(b).append(' ').append(a).append(' ').append(80 + b).append(';');
            }
        }
        SharedTaxis x = Check.desk(text.toString());
        Check.due("roads", x.size(1), 28);
        Check.due("minutes", x.minutes(6, 7), 87);
        Check.due("minutes", x.minutes(0, 1), 81);
        Check.due("roads", Check.desk("zones 8;").size(1), 0);
    }

    private static void leastSum() {
        Check.says("The way between two zones takes the least sum of minutes over roads");
        int[][] due = {{14, 14}, {15, 15}, {16, 15}, {99, 15}};
        for (int[] d : due) {
            SharedTaxis x = Check.desk("zones 3;road 0 2 " + d[0] + ";road 0 1 10;road 1 2 5;");
            Check.due("minutes with a road of " + d[0], x.minutes(0, 2), d[1]);
        }
        // The longest way that there can be, told from its middle to both ends.
        SharedTaxis x = Check.desk("zones 8;road 3 7 99;road 7 0 99;road 0 5 99;road 5 1 99;road 1 6 99;road 6 2 99;"
            + "road 2 4 99;");
        Check.due("minutes", x.minutes(3, 4), 693);
        Check.due("minutes", x.minutes(4, 3), 693);
        // Over the last zone as over the first one.
        SharedTaxis y = Check.desk("zones 8;road 0 7 2;road 7 1 3;");
        Check.due("minutes", y.minutes(0, 1), 5);
    }

    private static void wayToItself() {
        Check.says("(0 for a zone and itself)");
        SharedTaxis x = Check.desk("zones 3;road 0 1 1;");
        for (int zone = 0; zone < 3; zone++) {
            Check.due("minutes", x.minutes(zone, zone), 0);
        }
    }

    private static void noWay() {
        Check.says("there may be none");
        SharedTaxis x = Check.desk("zones 4;road 0 1 1;road 2 3 1;");
        Check.due("minutes", x.minutes(0, 2), -1);
        Check.due("minutes", x.minutes(3, 1), -1);
        Check.due("minutes", x.minutes(2, 3), 1);
    }

    private static void timesFromNone() {
        Check.says("All times are minutes, counted from 0; the present time is 0 at first");
        SharedTaxis x = Check.desk("zones 2;road 0 1 1;taxi 1 0 0 9;");
        Check.due("now", x.size(4), 0);
        Check.due("now", new SharedTaxis().size(4), 0);
        Check.due("accept", x.accept(x.ask(0, 1, 1, 0, 0)), 0);
    }

    private static final String[] RULES = {"wait", "dwell", "offer", "patience", "fee", "stint", "rest"};
    private static final int[][] RANGES = {{0, 60}, {0, 9}, {0, 60}, {0, 30}, {0, 9999}, {1, 999}, {1, 99}};

    private static void ruleRanges() {
        Check.says("The rules are numbers: 'wait' (0 to 60; ..), 'dwell' (0 to 9; ..), ..");
        for (int i = 0; i < RULES.length; i++) {
            inRange("zones 2;rule " + RULES[i] + " #;", RANGES[i][0], RANGES[i][1]);
            for (int value : RANGES[i]) {
                Check.due(RULES[i], Check.desk("zones 2;rule " + RULES[i] + " " + value + ";").rule(i), value);
            }
        }
    }

    private static void rulesAtFirst() {
        Check.says("15 at first .. 1 at first .. 5 at first .. 3 at first .. 0 at first .. 240 at first .. 30 at first");
        int[] first = {15, 1, 5, 3, 0, 240, 30};
        SharedTaxis x = Check.desk("zones 2;rule wait 2;rule dwell 2;rule offer 2;rule patience 2;rule fee 2;rule stint 2;"
            + "rule rest 2;");
        Check.load(x, "zones 2;");
        for (int i = 0; i < first.length; i++) {
            Check.due(RULES[i], x.rule(i), first[i]);
            Check.due(RULES[i] + " of a new object", new SharedTaxis().rule(i), first[i]);
        }
    }

    private static void tariffRange() {
        Check.says("a flag (0 to 9999 cents, 0 at first) and a rate (0 to 999 cents a minute, 0 at first)");
        inRange("zones 2;tariff # 0;", 0, 9999);
        inRange("zones 2;tariff 0 #;", 0, 999);
        SharedTaxis x = Check.desk("zones 2;tariff 9999 999;");
        Check.due("flag", x.size(7), 9999);
        Check.due("rate", x.size(8), 999);
    }

    private static void tariffAtFirst() {
        Check.says("The tariff is a flag (.. 0 at first) and a rate (.. 0 at first)");
        SharedTaxis x = Check.desk("zones 2;tariff 3 4;");
        Check.load(x, "zones 2;");
        Check.due("flag", x.size(7), 0);
        Check.due("rate", x.size(8), 0);
        Check.due("flag", new SharedTaxis().size(7), 0);
        Check.due("rate", new SharedTaxis().size(8), 0);
    }

    private static void discountRange() {
        Check.says("there are discounts (0 to 90 percent, 0 at first) for 2, 3, and 4 or more parties");
        inRange("zones 2;discount # 0;", 2, 4);
        for (int parties = 2; parties <= 4; parties++) {
            inRange("zones 2;discount " + parties + " #;", 0, 90);
            Check.due("discount", Check.desk("zones 2;discount " + parties + " 90;").rule(5 + parties), 90);
        }
    }

    private static void discountsAtFirst() {
        Check.says("discounts (.. 0 at first)");
        SharedTaxis x = Check.desk("zones 2;discount 2 7;discount 3 8;discount 4 9;");
        Check.load(x, "zones 2;");
        for (int rule = 7; rule <= 9; rule++) {
            Check.due("discount", x.rule(rule), 0);
            Check.due("discount", new SharedTaxis().rule(rule), 0);
        }
    }

    // ---- 6. Input text: its tokens

    private static void words() {
        Check.says("a word is a maximal run of the letters a to z");
        Check.loadFails("zone 2;", 1, 0);
        Check.loadFails("zoness 2;", 1, 0);
        Check.loadFails("zon es 2;", 1, 0);
        Check.loadFails("zones 2;taxitaxi 1 0 0 9;", 1, 8);
        Check.due("a digit ends a word", Check.load(new SharedTaxis(), "zones2;taxi1 0 0 9;"), 1);
        Check.due("a word ends a number", Check.desk("zones 2;rule wait 7;").rule(0), 7);
        Check.loadFails("zones 2a;", 1, 7);
        // All letters are there: 'road', 'taxi', 'tariff', 'stint', 'zones' .. but also those that no keyword has.
        Check.loadFails("zones 2;bghjkmqvy 1;", 1, 8);
    }

    private static void numbers() {
        Check.says("a number is a maximal run of digits (leading zeros are allowed)");
        Check.due("zones", Check.desk("zones 02;").size(0), 2);
        Check.due("zones", Check.desk("zones 00000000000000000000000000000000000000008;").size(0), 8);
        Check.loadFails("zones 000;", 2, 6);
        Check.loadFails("zones 2 0;", 1, 8);
        Check.due("fee", Check.desk("zones 2;rule fee 1234;").rule(4), 1234);
        Check.due("fee", Check.desk("zones 2;rule fee 0987;").rule(4), 987);
        Check.due("fee", Check.desk("zones 2;rule fee 6050;").rule(4), 6050);
    }

    private static void longNumbers() {
        Check.says("a number is a maximal run of digits; 2 A number that is out of range");
        // Each of these would be in range if it wrapped around 2 to the power of 8, 16, 31, 32, 63 or 64.
        String[] wraps = {"258", "65538", "2147483650", "4294967298", "9223372036854775810", "18446744073709551618"};
        for (String number : wraps) {
            Check.loadFails("zones " + number + ";", 2, 6);
        }
        StringBuilder zeros = new StringBuilder("zones 2;rule fee ");
        StringBuilder nines = new StringBuilder("zones 2;rule fee ");
        while (zeros.length() < 798) {
            zeros.append('0');
            nines.append('9');
        }
        Check.due("fee", Check.desk(zeros + "7;").rule(4), 7);
        Check.loadFails(nines + "9;", 2, 17);
    }

    private static void separators() {
        Check.says("The bytes 32 and 10 separate tokens and are otherwise ignored");
        SharedTaxis x = Check.desk("\n\n zones\n2 ; \n rule\n\nwait  \n 7\n;   ");
        Check.due("wait", x.rule(0), 7);
        Check.due("zones", Check.desk("zones2;rule wait 7;").size(0), 2);
        Check.loadFails("zo\nnes 2;", 1, 0);
        Check.loadFails("zones 2;rule wait 1 0;", 1, 20);
        Check.loadFails("zones 2;rule wait 1\n0;", 1, 20);
    }

    private static void everyOtherByte() {
        Check.says("Every other byte is an invalid token");
        for (int sign = 0; sign < 256; sign++) {
            boolean ignored = sign == ' ' || sign == '\n';
            boolean letter = sign >= 'a' && sign <= 'z';
            boolean digit = sign >= '0' && sign <= '9';
            // Behind the text, between a word and a number, and within a word.
            if (ignored) {
                Check.due("load", Check.load(new SharedTaxis(), "zones 2;" + (char) sign), 0);
                Check.due("load", Check.load(new SharedTaxis(), "zones" + (char) sign + "2;"), 0);
            } else {
                Check.loadFails("zones 2;" + (char) sign, 1, 8);
            }
            if (!ignored && !digit) {
                Check.loadFails("zones" + (char) sign + "2;", 1, letter ? 0 : 5);
            }
            if (!letter) {
                Check.loadFails("zo" + (char) sign + "nes 2;", 1, 0);
            }
        }
    }

    // ---- 6. Input text: its grammar

    private static void clauses() {
        Check.says("clause: 'road' zone zone minutes ';' | 'taxi' .. | 'tariff' .. | 'discount' .. | 'rule' ..");
        SharedTaxis x = Check.desk(EVERY_CLAUSE);
        Check.due("minutes", x.minutes(1, 0), 5);
        Check.dueText("taxi", Check.taxi(x, 0), "1 2 0 0 9 0 0 0 0 -1");
        Check.due("flag", x.size(7), 6);
        Check.due("rate", x.size(8), 7);
        Check.due("discount", x.rule(8), 8);
        Check.due("fee", x.rule(4), 9);
        Check.due("wait", x.rule(0), 1);
        // The clauses can come in any order.
        SharedTaxis y = Check.desk("zones 4;rule wait 1;rule fee 9;discount 3 8;tariff 6 7;taxi 1 2 0 9;road 0 1 5;");
        Check.dueText("everything", Check.everything(y), Check.everything(x));
    }

    private static void noClause() {
        Check.says("text:   'zones' n (2 to 8) ';' clause*");
        Check.due("load", Check.load(new SharedTaxis(), "zones 5;"), 0);
        Check.loadFails("", 1, 0);
        Check.loadFails("road 0 1 5;", 1, 0);
        Check.loadFails("zones 2;zones 2;", 1, 8);
        Check.loadFails("zones 2;;", 1, 8);
        // As many clauses as the buffer holds.
        StringBuilder text = new StringBuilder("zones 2;");
        while (text.length() < 800) {
            text.append("rule fee 5;");
        }
        Check.due("load", Check.load(new SharedTaxis(), text.toString()), 0);
    }

    private static void lastTariff() {
        Check.says("The last 'tariff' .. count");
        SharedTaxis x = Check.desk("zones 2;tariff 9 8;tariff 0 1;");
        Check.due("flag", x.size(7), 0);
        Check.due("rate", x.size(8), 1);
    }

    private static void lastDiscount() {
        Check.says("The last .. 'discount' for a number of parties .. count");
        SharedTaxis x = Check.desk("zones 2;discount 2 90;discount 3 80;discount 2 1;discount 4 5;discount 3 0;");
        Check.due("discount", x.rule(7), 1);
        Check.due("discount", x.rule(8), 0);
        Check.due("discount", x.rule(9), 5);
    }

    private static void lastRule() {
        Check.says("The last .. 'rule' of a kind count");
        SharedTaxis x = Check.desk("zones 2;rule wait 9;rule dwell 9;rule wait 0;rule wait 4;rule dwell 0;");
        Check.due("wait", x.rule(0), 4);
        Check.due("dwell", x.rule(1), 0);
    }

    // ---- 6. Input text: its errors

    private static void firstError() {
        Check.says("The first error along the text is reported, at the first byte of its token");
        Check.loadFails("zones 9 9;", 2, 6);
        Check.loadFails("zones 2;road 0 0 0;?", 4, 15);
        Check.loadFails("zones 2;road 0 9 0;?", 2, 15);
        Check.loadFails("zones 2;taxi 1 0 9 9;taxi 0 9 9 0;", 4, 19);
        Check.loadFails(FOUR_TAXIS + "taxi 0 9 9 0 ?", 3, 60);
        Check.loadFails("zones 2;   rulewait 99 ?", 1, 11);
        Check.loadFails("zones 2;rule wait   00099;", 2, 20);
    }

    private static void smallestCode() {
        Check.says("if several codes apply to one token, the smallest one");
        // The keyword of a fifth taxi, where no clause can begin.
        Check.loadFails(FOUR_TAXIS + "rule taxi 1;", 1, 65);
        Check.loadFails(FOUR_TAXIS + "road 0 taxi 1;", 1, 67);
        Check.loadFails(FOUR_TAXIS.substring(0, 59) + " taxi 1 0 0 9;", 1, 60);
        // An end that is out of range, whatever the begin of its shift is.
        Check.loadFails("zones 2;taxi 1 0 2879 2880;", 2, 22);
        // A second zone that is out of range, whatever the first one is.
        Check.loadFails("zones 2;road 2 2 5;", 2, 13);
    }

    /** Every token of a text in its turn: a word, a sign or an invalid byte stands where it is not allowed. */
    private static void tokenNotAllowed() {
        Check.says("1 The token is invalid or not allowed here");
        String text = EVERY_CLAUSE;
        for (int from = 0; from < text.length(); from++) {
            int to = endOfToken(text, from);
            if (text.charAt(from) != ' ' && (from == 0 || endOfToken(text, from - 1) <= from)) {
                for (String other : new String[] {"zones", "x", "(", "=", "A", "\t"}) {
                    if (!text.startsWith(other, from)) {
                        Check.loadFails(text.substring(0, from) + other + " " + text.substring(to), 1, from);
                    }
                }
            }
        }
    }

    private static int endOfToken(String text, int from) {
        int to = from + 1;
        while (to < text.length() && Character.isLetter(text.charAt(from)) && Character.isLetter(text.charAt(to))) {
            to++;
        }
        return to;
    }

    /** A number stands where the clause should end, a keyword where a number should, and the other way round. */
    private static void tokenTooMany() {
        Check.says("1 The token is .. not allowed here");
        for (int i = 0; i < EVERY_CLAUSE.length(); i++) {
            if (EVERY_CLAUSE.charAt(i) == ';') {
                Check.loadFails(EVERY_CLAUSE.substring(0, i) + " 0;" + EVERY_CLAUSE.substring(i + 1), 1, i + 1);
                Check.loadFails(EVERY_CLAUSE.substring(0, i) + ";;" + EVERY_CLAUSE.substring(i + 1), 1, i + 1);
                Check.loadFails(EVERY_CLAUSE.substring(0, i) + " road;" + EVERY_CLAUSE.substring(i + 1), 1, i + 1);
            }
            if (EVERY_CLAUSE.charAt(i) >= '0' && EVERY_CLAUSE.charAt(i) <= '9') {
                Check.loadFails(EVERY_CLAUSE.substring(0, i) + "wait" + EVERY_CLAUSE.substring(i + 1), 1, i);
            }
        }
        Check.loadFails("zones 2;5 wait 1;", 1, 8);
        Check.loadFails("zones 2;rule 5 1;", 1, 13);
        Check.loadFails("zones 2;wait 5;", 1, 8);
        Check.loadFails("zones 2;rule rule 5;", 1, 13);
        Check.loadFails("zones 2;rule road 5;", 1, 13);
        Check.loadFails("zones 2;rule many 5;", 1, 13);
        Check.loadFails("zones 2;ride 0 1 5;", 1, 8);
    }

    /** Every length of a text in its turn. */
    private static void endsTooEarly() {
        Check.says("or the text ends too early (the position is then the length of the text)");
        String text = EVERY_CLAUSE;
        for (int length = 0; length <= text.length(); length++) {
            String cut = text.substring(0, length);
            int word = length;
            while (word > 0 && Character.isLetter(text.charAt(word - 1))) {
                word--;
            }
            boolean wholeWord = length == text.length() || !Character.isLetter(text.charAt(length));
            if (cut.endsWith(";")) {
                Check.due("load(" + cut + ")", Check.load(new SharedTaxis(), cut), cut.contains("taxi") ? 1 : 0);
            } else {
                Check.loadFails(cut, 1, word < length && !wholeWord ? word : length);
                if (wholeWord) {
                    Check.loadFails(cut + " \n ", 1, length + 3);
                }
            }
        }
    }

    /** In place of the # each of these numbers, and those around them. */
    private static void inRange(String text, int least, int most) {
        int at = text.indexOf('#');
        SharedTaxis x = new SharedTaxis();
        Check.due(text + " with " + least, Check.load(x, text.replace("#", "" + least)) >= 0 ? 1 : 0, 1);
        Check.due(text + " with " + most, Check.load(x, text.replace("#", "" + most)) >= 0 ? 1 : 0, 1);
        if (least > 0) {
            Check.loadFails(text.replace("#", "" + (least - 1)), 2, at);
        }
        Check.loadFails(text.replace("#", "" + (most + 1)), 2, at);
        Check.loadFails(text.replace("#", "" + (4294967296L + least)), 2, at);
        Check.loadFails(text.replace("#", "-" + most), 1, at);
    }

    private static void outOfRange() {
        Check.says("2 A number that is out of range");
        inRange("zones #;", 2, 8);
        inRange("zones 8;road # 3 5;", 0, 7);
        inRange("zones 8;road 3 # 5;", 0, 7);
        inRange("zones 3;road # 1 5;", 0, 2);
        inRange("zones 3;road 1 # 5;", 0, 2);
        inRange("zones 2;road 0 1 #;", 1, 99);
        inRange("zones 2;taxi # 0 0 9;", 1, 6);
        inRange("zones 2;taxi 1 # 0 9;", 0, 1);
        inRange("zones 8;taxi 1 # 0 9;", 0, 7);
        Check.loadFails("zones 2;taxi 1 0 2880 2879;", 2, 17);
        Check.loadFails("zones 2;taxi 1 0 0 2880;", 2, 19);
    }

    private static void fifthTaxi() {
        Check.says("3 The keyword of the 5th taxi");
        Check.due("load", Check.load(new SharedTaxis(), FOUR_TAXIS), 4);
        Check.loadFails(FOUR_TAXIS + "taxi 1 0 0 9;", 3, 60);
        Check.loadFails(FOUR_TAXIS + "road 0 1 5; taxi", 3, 72);
        Check.loadFails(FOUR_TAXIS + "taxis 1 0 0 9;", 1, 60);
        Check.loadFails(FOUR_TAXIS + "tax 1 0 0 9;", 1, 60);
    }

    private static void sameZones() {
        Check.says("4 The second zone of a road that is the first one");
        for (int zone = 0; zone < 8; zone++) {
            Check.loadFails("zones 8;road " + zone + " " + zone + " 5;", 4, 15);
        }
    }

    private static void roadAgain() {
        Check.says("or that has a road with it already");
        Check.loadFails("zones 8;road 6 7 5;road 6 7 5;", 4, 26);
        Check.loadFails("zones 8;road 6 7 5;road 7 6 4;", 4, 26);
        // Not a road, but a way: that is allowed.
        SharedTaxis x = Check.desk("zones 3;road 0 1 5;road 1 2 5;road 2 0 9;");
        Check.due("minutes", x.minutes(0, 2), 9);
        // A load that failed leaves no roads behind.
        Check.load(x, "zones 3;road 0 1 5;road 1 2 ?");
        Check.due("load", Check.load(x, "zones 3;road 1 2 5;road 0 1 4;"), 0);
    }

    private static void endOfShift() {
        Check.says("the end of a shift that is not greater than its begin");
        Check.loadFails("zones 2;taxi 1 0 0 0;", 4, 19);
        Check.loadFails("zones 2;taxi 1 0 7 6;", 4, 19);
        Check.loadFails("zones 2;taxi 1 0 7 7;", 4, 19);
        Check.loadFails("zones 2;taxi 1 0 2879 2879;", 4, 22);
        Check.due("load", Check.load(new SharedTaxis(), "zones 2;taxi 1 0 7 8;taxi 1 0 2878 2879;taxi 1 0 0 1;"), 3);
    }
}
