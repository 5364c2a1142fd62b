/** Promises 31 to 36: the formatted route, undoing and the snapshot. */
public final class MemoryTests {
    private static final String TOWN = "zones 3;road 0 1 10;road 1 2 5;taxi 4 0 0 1000;taxi 4 2 0 1000;"
        + "tariff 100 20;discount 2 25;rule fee 60;";

    public static void main(String[] args) {
        format();
        formatLong();
        formattedByte();
        undoCount();
        undoEach();
        undoNothing();
        snapshot();
        snapshotStays();
        numbersAgain();
        Check.end();
    }

    // Promise 31
    private static void format() {
        SharedTaxis x = Check.desk(TOWN);
        Check.due("format", x.format(0), 1);
        Check.dueText("format", Check.format(x, 0), ".");
        Check.book(x, 0, 2, 1, 0, 100);
        Check.book(x, 2, 1, 2, 0, 100);
        Check.due("format", x.format(0), 9);
        Check.dueText("format", Check.format(x, 0), "+0@0 -0@2");
        Check.dueText("format", Check.format(x, 1), "+1@2 -1@1");
        x.advance(1);
        Check.dueText("format", Check.format(x, 0), "-0@2");
        Check.due("undoCount", x.undoCount(), 5);
        Check.noSuch("format", () -> x.format(2));
        Check.noSuch("format", () -> x.format(-1));
    }

    private static void formatLong() {
        SharedTaxis x = Check.desk("zones 8;road 0 7 1;taxi 6 0 0 999;rule dwell 0;");
        for (int i = 0; i < 18; i++) {
            x.ask(0, 7, 1, 0, 200);
        }
        for (int i = 8; i < 14; i++) {
            Check.due("accept", x.accept(i), 0);
        }
        Check.dueText("format", Check.format(x, 0),
            "+13@0 +12@0 +11@0 +10@0 +9@0 +8@0 -13@7 -12@7 -11@7 -10@7 -9@7 -8@7");
        Check.due("format", x.format(0), 67);
        Check.due("formattedByte", x.formattedByte(66), '7');
        Check.due("formattedByte", x.formattedByte(67), -1);
        for (int i = 8; i < 14; i++) {
            x.cancel(i);
        }
        for (int i = 14; i < 18; i++) {
            x.accept(i);
        }
        Check.book(x, 7, 0, 1, 9, 0);
        Check.book(x, 7, 0, 1, 9, 0);
        Check.due("stops", x.taxi(0, 5), 12);
        Check.due("format", x.format(0), 71);
        Check.due("formattedByte", x.formattedByte(70), '0');
    }

    // Promise 32
    private static void formattedByte() {
        SharedTaxis x = Check.desk(TOWN);
        Check.due("formattedByte", x.formattedByte(0), -1);
        Check.noSuch("format", () -> x.format(2));
        Check.due("formattedByte", x.formattedByte(0), -1);
        Check.book(x, 0, 2, 1, 0, 100);
        x.saveSnapshot();
        x.format(0);
        String want = "+0@0 -0@2";
        x.cancel(0);
        dueBytes(x, want);
        x.undo();
        dueBytes(x, want);
        Check.noSuch("format", () -> x.format(-1));
        dueBytes(x, want);
        x.restoreSnapshot();
        dueBytes(x, want);
        Check.load(x, "zones 2;taxi 1 0 0 1;");
        dueBytes(x, want);
        x.format(0);
        dueBytes(x, ".");
        Check.due("formattedByte", x.formattedByte(Integer.MAX_VALUE), -1);
        Check.due("formattedByte", x.formattedByte(Integer.MIN_VALUE), -1);
    }

    private static void dueBytes(SharedTaxis x, String want) {
        for (int i = 0; i < want.length(); i++) {
            Check.due("formattedByte", x.formattedByte(i), want.charAt(i));
        }
        Check.due("formattedByte", x.formattedByte(want.length()), -1);
        Check.due("formattedByte", x.formattedByte(-1), -1);
    }

    // Promise 33
    private static void undoCount() {
        SharedTaxis x = Check.desk(TOWN);
        for (int i = 0; i < 12; i++) {
            Check.due("undoCount", x.undoCount(), Math.min(i, 10));
            x.setRate(i);
        }
        Check.due("undoCount", x.undoCount(), 10);
        for (int i = 9; i >= 0; i--) {
            Check.due("undo", x.undo(), i);
            Check.due("undoCount", x.undoCount(), i);
            Check.due("rate", x.size(8), i + 1);
        }
        Check.due("undo", x.undo(), -1);
        Check.due("rate", x.size(8), 1);
        x.setRate(50);
        Check.due("undoCount", x.undoCount(), 1);
        Check.due("undo", x.undo(), 0);
        Check.due("rate", x.size(8), 1);
    }

    // Promise 34
    private static void undoEach() {
        SharedTaxis x = Check.desk(TOWN);
        Runnable[] operations = {
            () -> x.ask(0, 2, 1, 0, 100), () -> x.accept(0), () -> x.ask(1, 2, 2, 0, 100), () -> x.accept(1),
            () -> x.ask(0, 1, 1, 100, 0), () -> x.ask(2, 0, 1, 20, 0), () -> x.accept(3), () -> x.decline(2),
            () -> x.advance(3), () -> x.absent(3), () -> x.cancel(3), () -> x.tip(0, 5), () -> x.setRate(77),
            () -> x.setRate(77), () -> x.setEnd(1, 300), () -> x.setRule(1, 4), () -> x.setRule(9, 33),
            () -> x.ask(1, 0, 1, 9, 100), () -> x.advance(4), () -> x.accept(4), () -> x.absent(4),
            () -> x.advance(9), () -> x.advance(40), () -> x.ask(0, 1, 4, 0, 0), () -> x.advance(6)};
        String[] before = new String[operations.length];
        for (int i = 0; i < operations.length; i++) {
            before[i] = Check.everything(x);
            operations[i].run();
            String after = Check.everything(x);
            int steps = Math.min(i + 1, 10);
            for (int back = 1; back <= steps; back++) {
                Check.due("undo " + back + " behind operation " + i, x.undo(), steps - back);
                Check.dueText("everything", Check.everything(x), before[i + 1 - back]);
            }
            for (int again = i + 1 - steps; again <= i; again++) {
                operations[again].run();
            }
            Check.dueText("everything", Check.everything(x), after);
        }
    }

    private static void undoNothing() {
        SharedTaxis x = Check.desk(TOWN);
        Check.due("undo", x.undo(), -1);
        x.ask(0, 1, 1, 0, 0);
        x.decline(0);
        String before = Check.everything(x);
        x.decline(0);
        x.accept(0);
        x.cancel(0);
        x.absent(0);
        x.tip(0, 2000000000);
        x.tip(0, 1);
        Check.due("undoCount", x.undoCount(), 3);
        Check.due("undo", x.undo(), 2);
        Check.dueText("everything", Check.everything(x), before);
        // Neither texts nor snapshots are operations.
        x.format(0);
        x.saveSnapshot();
        Check.query(x, "many ride=0");
        Check.load(x, "oops");
        Check.due("undoCount", x.undoCount(), 2);
        Check.feed(x, "many ride=0");
        x.undo();
        Check.due("query", x.query(11), 1);
    }

    // Promises 35 and 36
    private static void snapshot() {
        SharedTaxis x = Check.desk(TOWN);
        Check.due("restoreSnapshot", x.restoreSnapshot() ? 1 : 0, 0);
        Check.book(x, 0, 2, 1, 0, 100);
        Check.due("restoreSnapshot", x.restoreSnapshot() ? 1 : 0, 0);
        Check.due("undoCount", x.undoCount(), 2);
        Check.book(x, 1, 2, 2, 9, 100);
        x.ask(2, 1, 1, 90, 0);
        x.advance(2);
        x.tip(1, 3);
        String saved = Check.everything(x);
        x.saveSnapshot();
        Check.due("undoCount", x.undoCount(), 7);
        x.absent(1);
        x.accept(2);
        x.advance(700);
        x.setRate(3);
        x.setEnd(0, 50);
        x.setRule(7, 1);
        x.ask(0, 1, 1, 0, 0);
        Check.due("restoreSnapshot", x.restoreSnapshot() ? 1 : 0, 1);
        Check.dueText("everything", Check.everything(x), saved);
        Check.due("undoCount", x.undoCount(), 0);
        Check.due("undo", x.undo(), -1);
        x.advance(5);
        x.undo();
        Check.dueText("everything", Check.everything(x), saved);
        x.advance(500);
        Check.due("restoreSnapshot", x.restoreSnapshot() ? 1 : 0, 1);
        Check.dueText("everything", Check.everything(x), saved);
    }

    /** A ride that is asked for behind an undo or a snapshot keeps nothing of the one that had its number. */
    private static void numbersAgain() {
        SharedTaxis x = Check.desk(TOWN);
        x.ask(0, 1, 2, 3, 4);
        x.saveSnapshot();
        String saved = Check.everything(x);
        x.undo();
        x.setRule(2, 9);
        Check.book(x, 0, 2, 1, 10, 60);
        x.absent(0);
        x.advance(30);
        Check.due("no-show", x.ride(0, 0), 5);
        Check.due("restoreSnapshot", x.restoreSnapshot() ? 1 : 0, 1);
        Check.dueText("everything", Check.everything(x), saved);
        x.advance(6);
        x.ask(0, 1, 1, 100, 0);
        x.undo();
        x.undo();
        Check.dueText("everything", Check.everything(x), saved);

        SharedTaxis y = Check.desk(TOWN);
        y.saveSnapshot();
        Check.book(y, 0, 2, 1, 0, 0);
        y.advance(3);
        Check.due("aboard", y.ride(0, 0), 2);
        askAgain(y);
        y.accept(0);
        y.absent(0);
        y.advance(30);
        Check.due("charged", y.ride(0, 12), 60);
        askAgain(y);
        y.accept(0);
        y.advance(30);
        Check.due("done", y.ride(0, 0), 3);
        askAgain(y);
    }

    private static void askAgain(SharedTaxis x) {
        x.restoreSnapshot();
        Check.due("ask", x.ask(0, 1, 1, 9, 0), 0);
        Check.dueText("ride", Check.ride(x, 0), "0 0 1 1 9 24 0 10 10 -1 -1 -1 0 0");
        Check.dueText("offer", Check.offer(x, 0), "0 10 9 20 5");
    }

    private static void snapshotStays() {
        SharedTaxis x = Check.desk(TOWN);
        x.setRate(1);
        x.saveSnapshot();
        x.setRate(2);
        x.saveSnapshot();
        x.setRate(3);
        x.undo();
        x.undo();
        x.undo();
        Check.due("rate", x.size(8), 20);
        x.restoreSnapshot();
        Check.due("rate", x.size(8), 2);
        Check.load(x, "zones 1;");
        x.setRate(4);
        Check.due("restoreSnapshot behind an error", x.restoreSnapshot() ? 1 : 0, 1);
        Check.due("rate", x.size(8), 2);
        Check.load(x, "zones 2;");
        Check.due("restoreSnapshot behind load", x.restoreSnapshot() ? 1 : 0, 0);
        Check.due("rate", x.size(8), 0);
    }
}
