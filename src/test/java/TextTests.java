/** Promises 1 to 4 and 37: the new object, the buffer, and the texts of load and query. */
public final class TextTests {
    public static void main(String[] args) {
        newObject();
        feedFillsBuffer();
        feedOrder();
        loadReadsAll();
        loadReplaces();
        loadErrors();
        loadManyTokens();
        loadLength();
        errorPosition();
        queryAnswers();
        queryProperties();
        queryErrors();
        queryDepth();
        queryLength();
        Check.end();
    }

    // Promise 1
    private static void newObject() {
        SharedTaxis x = new SharedTaxis();
        int[] sizes = {2, 0, 0, 0, 0, 0, 0, 0, 0};
        for (int i = 0; i < sizes.length; i++) {
            Check.due("size", x.size(i), sizes[i]);
        }
        int[] rules = {15, 1, 5, 3, 0, 240, 30, 0, 0, 0};
        for (int i = 0; i < rules.length; i++) {
            Check.due("rule", x.rule(i), rules[i]);
        }
        Check.due("minutes", x.minutes(0, 1), -1);
        Check.due("minutes", x.minutes(1, 1), 0);
        Check.due("errorPosition", x.errorPosition(), -1);
        Check.due("formattedByte", x.formattedByte(0), -1);
        Check.due("undoCount", x.undoCount(), 0);
        Check.due("undo", x.undo(), -1);
        Check.due("restoreSnapshot", x.restoreSnapshot() ? 1 : 0, 0);
        Check.noSuch("taxi", () -> x.taxi(0, 0));
        Check.noSuch("ride", () -> x.ride(0, 0));
        Check.due("NONE", SharedTaxis.NONE, -1);
        Check.due("HIDDEN", SharedTaxis.HIDDEN, -1000000000);
    }

    // Promise 2
    private static void feedFillsBuffer() {
        SharedTaxis x = new SharedTaxis();
        for (int i = 1; i <= 40; i++) {
            Check.due("feed", x.feed(0x20202020, 0x20202020, 0x20202020, 0x20202020, 0x20202020), 20 * i);
        }
        Check.due("feed", x.feed(0x41414141, 0x41414141, 0x41414141, 0x41414141, 0x41414141), -1);
        Check.illegal("load", () -> x.load(801));
        Check.due("load", x.load(800), -11);
        Check.due("errorPosition", x.errorPosition(), 800);
        Check.due("feed", x.feed(0, 0, 0, 0, 0), 20);
    }

    private static void feedOrder() {
        SharedTaxis x = new SharedTaxis();
        // zones 2;rule wait 7; with the sign of every word of 32 bits clear, then bytes above 127
        x.feed(0x7a6f6e65, 0x7320323b, 0x72756c65, 0x20776169, 0x7420373b);
        Check.due("load", x.load(20), 0);
        Check.due("rule", x.rule(0), 7);
        x.feed(0x7a6f6e65, 0x7320323b, 0x20202020, 0x0a0a8020, 0x20202020);
        Check.due("load", x.load(20), -11);
        Check.due("errorPosition", x.errorPosition(), 14);
        x.feed(-1, -1, -1, -1, -1);
        Check.due("load", x.load(20), -11);
        Check.due("errorPosition", x.errorPosition(), 0);
        // The same as 'z' but for its highest bit.
        x.feed(0xfa6f6e65, 0x7320323b, 0x20202020, 0x20202020, 0x20202020);
        Check.due("load", x.load(20), -11);
        Check.due("errorPosition", x.errorPosition(), 0);
    }

    // Promise 3
    private static void loadReadsAll() {
        SharedTaxis x = new SharedTaxis();
        Check.due("load", Check.load(x, "zones 8;road 0 7 99;road 7 3 1;road 3 0 0098;taxi 1 0 0 1;\ntaxi 6 7 2878 2879;"
            + "tariff 9999 999;discount 2 90;discount 3 0;discount 4 50;rule wait 60;rule dwell 9;rule offer 60;"
            + "rule patience 30;rule fee 9999;rule stint 999;rule rest 99;"), 2);
        int[] rules = {60, 9, 60, 30, 9999, 999, 99, 90, 0, 50};
        for (int i = 0; i < rules.length; i++) {
            Check.due("rule", x.rule(i), rules[i]);
        }
        int[] sizes = {8, 3, 2, 0, 0, 0, 0, 9999, 999};
        for (int i = 0; i < sizes.length; i++) {
            Check.due("size", x.size(i), sizes[i]);
        }
        Check.due("minutes", x.minutes(0, 3), 98);
        Check.due("minutes", x.minutes(3, 0), 98);
        Check.due("minutes", x.minutes(0, 7), 99);
        Check.due("minutes", x.minutes(0, 1), -1);
        Check.dueText("taxi", Check.taxi(x, 0), "1 0 0 0 1 0 0 0 0 -1");
        Check.dueText("taxi", Check.taxi(x, 1), "6 7 2878 2878 2879 0 0 0 0 -1");
        Check.due("load", Check.load(x, "zones 2;rule wait 0;rule dwell 0;rule offer 0;rule patience 0;rule fee 0;"
            + "rule stint 1;rule rest 1;tariff 5 6;tariff 7 8;rule wait 3;rule wait 2;discount 4 9;discount 4 8;"), 0);
        int[] least = {2, 0, 0, 0, 0, 1, 1, 0, 0, 8};
        for (int i = 0; i < least.length; i++) {
            Check.due("rule", x.rule(i), least[i]);
        }
        Check.due("size", x.size(7), 7);
        Check.due("size", x.size(8), 8);
        Check.due("load", Check.load(x, "zones2;road0 1 5;taxi 1 0 0 9;taxi 1 0 0 9;taxi 1 0 0 9;taxi 1 0 0 9;"), 4);
        Check.due("minutes", x.minutes(1, 0), 5);
    }

    private static void loadReplaces() {
        SharedTaxis x = Check.desk("zones 3;road 0 1 9;road 1 2 9;taxi 4 1 0 999;tariff 3 4;rule fee 8;discount 2 7;");
        Check.book(x, 0, 1, 1, 0, 0);
        x.advance(30);
        x.saveSnapshot();
        x.setRate(5);
        String before = Check.everything(x);
        Check.due("load", Check.load(x, "zones 3;road 0 1 9;taxi 4 1 0 999;rule fee 10000;"), -12);
        Check.dueText("everything behind an error", Check.everything(x), before);
        Check.due("undoCount", x.undoCount(), 4);
        Check.due("load", Check.load(x, "zones 3;"), 0);
        Check.dueText("everything", Check.everything(x), "3 0 0 0 0 0 0 0 0 15 1 5 3 0 240 30 0 0 0 ");
        Check.due("minutes", x.minutes(0, 1), -1);
        Check.due("undoCount", x.undoCount(), 0);
        Check.due("undo", x.undo(), -1);
        Check.due("restoreSnapshot", x.restoreSnapshot() ? 1 : 0, 0);
    }

    private static void loadErrors() {
        Check.loadFails("", 1, 0);
        Check.loadFails("   ", 1, 3);
        Check.loadFails("zone 2;", 1, 0);
        Check.loadFails("zoness 2;", 1, 0);
        Check.loadFails("Zones 2;", 1, 0);
        Check.loadFails("zones", 1, 5);
        Check.loadFails("zones ;", 1, 6);
        Check.loadFails("zones 1;", 2, 6);
        Check.loadFails("zones 9;", 2, 6);
        Check.loadFails("zones 02", 1, 8);
        Check.loadFails("zones 99999999999999999999", 2, 6);
        Check.loadFails("zones 4294967298;", 2, 6);
        Check.loadFails("zones 2 2;", 1, 8);
        Check.loadFails("zones 2;;", 1, 8);
        Check.loadFails("zones 2;zones 2;", 1, 8);
        Check.loadFails("zones 2;rode 0 1 5;", 1, 8);
        Check.loadFails("zones 2;toad 0 1 5;", 1, 8);
        Check.loadFails("zones 2;roads 0 1 5;", 1, 8);
        Check.loadFails("zones 2;7", 1, 8);
        Check.loadFails("zones 2;\t", 1, 8);
        Check.loadFails("zones 2;(", 1, 8);
        Check.loadFails("zones 2;road 2 1 5;", 2, 13);
        Check.loadFails("zones 2;road 0 2 5;", 2, 15);
        Check.loadFails("zones 2;road 0 0 5;", 4, 15);
        Check.loadFails("zones 2;road 0 1 0;", 2, 17);
        Check.loadFails("zones 2;road 0 1 100;", 2, 17);
        Check.loadFails("zones 2;road 0 1 ;", 1, 17);
        Check.loadFails("zones 2;road 0 1 5", 1, 18);
        Check.loadFails("zones 2;road 0 1 5 5;", 1, 19);
        Check.loadFails("zones 2;road 0 1 5;road 0 1 6;", 4, 26);
        Check.loadFails("zones 2;road 0 1 5;road 1 0 6;", 4, 26);
        Check.loadFails("zones 2;road 0 1 5;road 0 0 6;", 4, 26);
        Check.loadFails("zones 2;road a 1 5;", 1, 13);
        Check.loadFails("zones 2;road 0 b 5;", 1, 15);
        Check.loadFails("zones 2;road 0", 1, 14);
        Check.loadFails("zones 2;taxi 0 0 0 1;", 2, 13);
        Check.loadFails("zones 2;taxi 7 0 0 1;", 2, 13);
        Check.loadFails("zones 2;taxi 1 2 0 1;", 2, 15);
        Check.loadFails("zones 2;taxi 1 1 2880 1;", 2, 17);
        Check.loadFails("zones 2;taxi 1 1 2879 2879;", 4, 22);
        Check.loadFails("zones 2;taxi 1 1 2879 2880;", 2, 22);
        Check.loadFails("zones 2;taxi 1 1 5 4;", 4, 19);
        Check.loadFails("zones 2;taxi 1 1 5 5;", 4, 19);
        Check.loadFails("zones 2;taxi 1 1 0 0;", 4, 19);
        Check.loadFails("zones 2;taxi 1 1 0;", 1, 18);
        String four = "zones 2;taxi 1 0 0 9;taxi 1 0 0 9;taxi 1 0 0 9;taxi 1 0 0 9;";
        Check.loadFails(four + "taxi", 3, 60);
        Check.loadFails(four + "\n taxi 9 9", 3, 62);
        Check.loadFails(four + "tax", 1, 60);
        Check.loadFails("zones 2;tariff 10000 0;", 2, 15);
        Check.loadFails("zones 2;tariff 0 1000;", 2, 17);
        Check.loadFails("zones 2;tariff 0;", 1, 16);
        Check.loadFails("zones 2;discount 1 0;", 2, 17);
        Check.loadFails("zones 2;discount 5 0;", 2, 17);
        Check.loadFails("zones 2;discount 2 91;", 2, 19);
        Check.loadFails("zones 2;discount ;", 1, 17);
        Check.loadFails("zones 2;rule weight 0;", 1, 13);
        Check.loadFails("zones 2;rule zones 0;", 1, 13);
        Check.loadFails("zones 2;rule 0 0;", 1, 13);
        Check.loadFails("zones 2;rule wait 61;", 2, 18);
        Check.loadFails("zones 2;rule dwell 10;", 2, 19);
        Check.loadFails("zones 2;rule offer 61;", 2, 19);
        Check.loadFails("zones 2;rule patience 31;", 2, 22);
        Check.loadFails("zones 2;rule fee 10000;", 2, 17);
        Check.loadFails("zones 2;rule stint 1000;", 2, 19);
        Check.loadFails("zones 2;rule stint 0;", 2, 19);
        Check.loadFails("zones 2;rule rest 100;", 2, 18);
        Check.loadFails("zones 2;rule rest 0;", 2, 18);
        Check.loadFails("zones 2;rule rest many;", 1, 18);
        Check.loadFails("zones 2;rule rest 1 \n", 1, 21);
        Check.loadFails("zones 2;rule rest 1;wait", 1, 20);
        // The first error counts, also if a later one has a smaller code.
        Check.loadFails("zones 2;road 0 0 ?", 4, 15);
        Check.loadFails("zones 2;taxi 1 2 x", 2, 15);
    }

    /** Every byte can be a token, also an invalid one. */
    private static void loadManyTokens() {
        for (char sign : new char[] {';', '(', 'A', '0', 'a', (char) 255, 0}) {
            SharedTaxis x = new SharedTaxis();
            StringBuilder text = new StringBuilder();
            while (text.length() < 800) {
                text.append(sign);
            }
            Check.due("load", Check.load(x, text.toString()), -11);
            Check.due("errorPosition", x.errorPosition(), 0);
        }
        SharedTaxis x = new SharedTaxis();
        StringBuilder text = new StringBuilder("zones 2");
        while (text.length() < 800) {
            text.append(";rule rest 9");
        }
        Check.due("load", Check.load(x, text.substring(0, 799)), -11);
        Check.due("errorPosition", x.errorPosition(), 799);
        Check.due("load", Check.load(x, text.substring(0, 800)), 0);
        Check.due("rule", x.rule(6), 9);
    }

    private static void loadLength() {
        SharedTaxis x = new SharedTaxis();
        Check.illegal("load", () -> x.load(1));
        Check.feed(x, "zones 3;zones");
        Check.illegal("load", () -> x.load(-1));
        Check.illegal("load", () -> x.load(21));
        Check.due("feed", x.feed(0, 0, 0, 0, 0), 40);
        Check.due("load", x.load(8), 0);
        Check.due("size", x.size(0), 3);
        Check.illegal("load", () -> x.load(1));
        Check.due("load", x.load(0), -11);
        Check.due("feed", x.feed(0, 0, 0, 0, 0), 20);
        Check.due("load", x.load(20), -11);
        Check.due("feed behind an error", x.feed(0, 0, 0, 0, 0), 20);
    }

    // Promise 4
    private static void errorPosition() {
        SharedTaxis x = new SharedTaxis();
        Check.due("load", Check.load(x, "zones 9;"), -12);
        Check.due("errorPosition", x.errorPosition(), 6);
        Check.illegal("load", () -> x.load(1));
        Check.illegal("query", () -> x.query(1));
        Check.due("errorPosition", x.errorPosition(), 6);
        Check.due("query", Check.query(x, "many ride=0"), 0);
        Check.due("errorPosition", x.errorPosition(), -1);
        Check.due("query", Check.query(x, "many ride 0"), -1000000001);
        Check.due("errorPosition", x.errorPosition(), 10);
        x.setRate(1);
        x.undo();
        Check.due("errorPosition", x.errorPosition(), 10);
        Check.due("load", Check.load(x, "zones 4;"), 0);
        Check.due("errorPosition", x.errorPosition(), -1);
    }

    /** Rides 0 aboard, 1 booked, 2 offered, 3 refused. */
    private static SharedTaxis fourRides() {
        SharedTaxis x = Check.desk("zones 4;road 0 1 10;road 1 2 5;road 0 2 20;taxi 4 0 0 1000;tariff 100 20;");
        Check.book(x, 0, 2, 1, 0, 100);
        Check.book(x, 1, 2, 2, 0, 90);
        x.advance(3);
        x.ask(2, 0, 1, 30, 0);
        x.ask(0, 3, 6, 600, 200);
        return x;
    }

    // Promise 37
    private static void queryAnswers() {
        SharedTaxis x = fourRides();
        Check.answers(x, "many ride<4", 4);
        Check.answers(x, "first ride>4", -1);
        Check.answers(x, "first ride > 1", 2);
        Check.answers(x, "many 0 = 0", 4);
        Check.answers(x, "many 1 < 1", 0);
        Check.answers(x, "many 1 > 1", 0);
        Check.answers(x, "many\nride>1and ride<3", 1);
        Check.answers(x, "many ride=0 or ride=1 and ride=2", 1);
        Check.answers(x, "many (ride=0 or ride=1) and ride=2", 0);
        Check.answers(x, "many ride=2 and ride=1 or ride=0", 1);
        Check.answers(x, "many ride=2 and (ride=1 or ride=0)", 0);
        Check.answers(x, "many not ride=0 and ride=1", 1);
        Check.answers(x, "many not (ride=0 and ride=1)", 4);
        Check.answers(x, "many not ride=0 or ride=0", 4);
        Check.answers(x, "first not not ride=3", 3);
        Check.answers(x, "many ride=0 or ride=1 or ride=3", 3);
        Check.answers(x, "many ride<3 and ride<2 and ride<1", 1);
        Check.answers(x, "many 00099999 > 99998", 4);
        Check.due("query", Check.query(new SharedTaxis(), "many 1 = 1"), 0);
        Check.due("query", Check.query(new SharedTaxis(), "first 1 = 1"), -1);
    }

    private static void queryProperties() {
        SharedTaxis x = fourRides();
        Check.answers(x, "first state=2", 0);
        Check.answers(x, "first state=1", 1);
        Check.answers(x, "first state=0", 2);
        Check.answers(x, "first state=4", 3);
        Check.answers(x, "first from=2", 2);
        Check.answers(x, "many from=0", 2);
        Check.answers(x, "first to=3", 3);
        Check.answers(x, "many from > to", 1);
        Check.answers(x, "first persons=6", 3);
        Check.answers(x, "first persons=2", 1);
        Check.answers(x, "first ready=33", 2);
        Check.answers(x, "many ready=0", 2);
        Check.answers(x, "first detour=90", 1);
        Check.answers(x, "first detour=200", 3);
        Check.answers(x, "many fare=100", 1);
        Check.answers(x, "many fare=0", 3);
        Check.answers(x, "many taxi=1", 2);
        Check.answers(x, "many taxi=0", 2);
        x.cancel(1);
        Check.answers(x, "first state=6 and taxi=1", -1);
        x.advance(40);
        Check.answers(x, "first state=3 and taxi=1 and fare>100", 0);
    }

    private static void wrongQuery(String text, int code, int position) {
        Check.queryFails(fourRides(), text, code, position);
    }

    private static void queryErrors() {
        wrongQuery("", 1, 0);
        wrongQuery("  ", 1, 2);
        wrongQuery("ride=0", 1, 0);
        wrongQuery("many", 1, 4);
        wrongQuery("many first", 1, 5);
        wrongQuery("many ride", 1, 9);
        wrongQuery("many ride=", 1, 10);
        wrongQuery("many ride=0 ride", 1, 12);
        wrongQuery("many ride=0 or", 1, 14);
        wrongQuery("many ride=0 and", 1, 15);
        wrongQuery("many ride=0)", 1, 11);
        wrongQuery("many (ride=0", 1, 12);
        wrongQuery("many ()", 1, 6);
        wrongQuery("many (ride)=0", 1, 10);
        wrongQuery("many (ride=0;", 1, 12);
        wrongQuery("many ride=(0)", 1, 10);
        wrongQuery("many ride=not 0=0", 1, 10);
        wrongQuery("many ride==0", 1, 10);
        wrongQuery("many ride<=0", 1, 10);
        wrongQuery("many ride;0", 1, 9);
        wrongQuery("many wait=0", 1, 5);
        wrongQuery("many zones=0", 1, 5);
        wrongQuery("many rides=0", 1, 5);
        wrongQuery("many rid=0", 1, 5);
        wrongQuery("many ride=-1", 1, 10);
        wrongQuery("many ride=R", 1, 10);
        wrongQuery("many and ride=0", 1, 5);
        wrongQuery("many ride=100000", 2, 10);
        wrongQuery("many 100000=ride", 2, 5);
        wrongQuery("many ride=99999999999999999999", 2, 10);
        wrongQuery("many ride=0 or 100000", 2, 15);
        wrongQuery("many ride=0;", 1, 11);
        wrongQuery("many ride 100000", 1, 10);
    }

    private static void queryDepth() {
        SharedTaxis x = fourRides();
        Check.answers(x, "many not not not not not not ride=0", 1);
        Check.answers(x, "many ((((((ride=0))))))", 1);
        Check.answers(x, "many (not(not(not ride=0)))", 3);
        Check.answers(x, "many ((((((ride=0)))))) and ((((((ride=0))))))", 1);
        Check.answers(x, "many not not not not not not ride=0 and not ride=1", 1);
        Check.answers(x, "many (((((not ride=0 and not ride=1)))))", 2);
        wrongQuery("many not not not not not not not ride=0", 3, 29);
        wrongQuery("many (((((((ride=0)))))))", 3, 11);
        wrongQuery("many ((((((not", 3, 11);
        wrongQuery("many ((((((ride=0 or (ride=1)))))))", 3, 21);
        wrongQuery("many not not not((( ride=0 and (", 3, 31);
        wrongQuery("many ((((((ride=0)))))) (", 1, 24);
    }

    private static void queryLength() {
        SharedTaxis x = fourRides();
        StringBuilder text = new StringBuilder("many ride=1");
        while (text.length() < 200) {
            text.append(' ');
        }
        Check.answers(x, text.toString(), 1);
        Check.feed(x, text.append("           ").toString());
        Check.illegal("query", () -> x.query(201));
        Check.illegal("query", () -> x.query(-1));
        Check.due("feed", x.feed(0, 0, 0, 0, 0), 240);
        Check.due("query", x.query(11), 1);
        Check.illegal("query", () -> x.query(1));
        Check.due("query", x.query(0), -1000000001);
        Check.due("query", Check.query(x, "oops"), -1000000001);
        Check.illegal("query behind an error", () -> x.query(1));
        String before = Check.everything(x);
        Check.query(x, "many ride=1");
        Check.dueText("everything", Check.everything(x), before);
        Check.due("undoCount", x.undoCount(), 7);
    }
}
