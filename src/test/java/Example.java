/** The example of README.md: two parties share a taxi for a part of their ways. */
public final class Example {
    public static void main(String[] args) {
        SharedTaxis desk = new SharedTaxis();
        String town = "zones 3; road 0 1 10; road 1 2 5; taxi 4 0 0 1000; tariff 100 20; discount 2 25;";
        feed(desk, town);
        if (desk.load(town.length()) < 0) {
            System.out.println("an error at " + desk.errorPosition());
            return;
        }
        int first = book(desk, 0, 2, 1);
        int second = book(desk, 1, 2, 3);
        printRoute(desk, 0);

        System.out.println(desk.advance(20) + " stops are done");
        System.out.println("paid: " + desk.ride(first, 12) + " and " + desk.ride(second, 12));

        String query = "first state = 3 and not fare > 200";
        feed(desk, query);
        System.out.println("the first cheap ride: " + desk.query(query.length()));

        desk.undo();
        System.out.println("with the minutes undone, it is minute " + desk.size(4));
    }

    /** Asks for a ride that is ready now and may take twice its direct minutes, and accepts the offer. */
    private static int book(SharedTaxis desk, int from, int to, int persons) {
        int ride = desk.ask(from, to, persons, 0, 100);
        if (desk.offer(ride, 0) == SharedTaxis.NONE) {
            System.out.println("ride " + ride + " is refused");
        } else {
            System.out.println("ride " + ride + " is picked up in minute " + desk.accept(ride));
        }
        return ride;
    }

    private static void printRoute(SharedTaxis desk, int taxi) {
        StringBuilder route = new StringBuilder();
        int length = desk.format(taxi);
        for (int i = 0; i < length; i++) {
            route.append((char) desk.formattedByte(i));
        }
        System.out.println("the route: " + route);
    }

    /** Feeds the text, 20 bytes a call; what the last call has too many are blanks, which load and query leave alone. */
    private static void feed(SharedTaxis desk, String text) {
        for (int i = 0; i < text.length(); i += 20) {
            desk.feed(four(text, i), four(text, i + 4), four(text, i + 8), four(text, i + 12), four(text, i + 16));
        }
    }

    private static int four(String text, int at) {
        int four = 0;
        for (int i = at; i < at + 4; i++) {
            four = four << 8 | (i < text.length() ? text.charAt(i) & 255 : ' ');
        }
        return four;
    }
}
