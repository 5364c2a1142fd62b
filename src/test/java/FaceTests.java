import java.lang.reflect.Constructor;
import java.lang.reflect.Field;
import java.lang.reflect.Member;
import java.lang.reflect.Method;
import java.lang.reflect.Modifier;
import java.util.Arrays;
import java.util.NoSuchElementException;
import java.util.Random;
import java.util.TreeSet;

/** The public face, and that no call throws what the document does not name, whatever it is given. */
public final class FaceTests {
    private static final String FACE = "absent accept account advance aloneFare ask cancel decline errorPosition extra "
        + "fare feed format formattedByte keeps load meanFare minutes offer query restoreSnapshot ride rides "
        + "routeMinutes rule saveSnapshot setEnd setRate setRule sharedPart size stop taxi tip undo undoCount";

    public static void main(String[] args) throws Exception {
        members();
        wildCalls();
        Check.end();
    }

    private static void members() {
        TreeSet<String> open = new TreeSet<>();
        TreeSet<String> closed = new TreeSet<>();
        for (Method m : SharedTaxis.class.getDeclaredMethods()) {
            if (!m.isSynthetic()) {
                (Modifier.isPrivate(m.getModifiers()) ? closed : open).add(m.getName());
            }
        }
        Check.dueText("methods", String.join(" ", open), FACE);
        closed.retainAll(open);
        Check.dueText("private methods with public names", String.join(" ", closed), "");
        TreeSet<String> fields = new TreeSet<>();
        for (Field f : SharedTaxis.class.getDeclaredFields()) {
            if (isOpen(f)) {
                fields.add(f.getName());
            }
        }
        Check.dueText("fields", String.join(" ", fields), "HIDDEN NONE");
        Constructor<?>[] constructors = SharedTaxis.class.getDeclaredConstructors();
        Check.due("constructors", constructors.length, 1);
        Check.due("final", Modifier.isFinal(SharedTaxis.class.getModifiers()) ? 1 : 0, 1);
    }

    private static boolean isOpen(Member member) {
        return !Modifier.isPrivate(member.getModifiers()) && !member.isSynthetic();
    }

    private static void wildCalls() throws Exception {
        int[] wild = {Integer.MIN_VALUE, -1000000000, -2, -1, 0, 1, 2, 3, 5, 6, 7, 8, 9, 10, 12, 13, 14, 20, 24, 60, 90,
            200, 201, 600, 800, 801, 999, 1440, 2879, 9999, 1000000000, 2000000000, Integer.MAX_VALUE};
        Method[] methods = Arrays.stream(SharedTaxis.class.getDeclaredMethods()).filter(FaceTests::isOpen)
            .sorted((a, b) -> a.getName().compareTo(b.getName())).toArray(Method[]::new);
        Random random = new Random(7);
        for (int run = 0; run < 60; run++) {
            SharedTaxis x = Check.desk("zones 8;road 0 1 1;road 1 2 2;road 2 3 3;road 0 7 4;taxi 6 0 0 2879;"
                + "taxi 4 7 9 2879;taxi 1 3 0 99;tariff 100 100;rule wait 60;");
            for (int call = 0; call < 512; call++) {
                Method m = methods[random.nextInt(methods.length)];
                if (m.getName().equals("load") && random.nextInt(4) > 0) {
                    continue;
                }
                Object[] arguments = new Object[m.getParameterCount()];
                for (int i = 0; i < arguments.length; i++) {
                    arguments[i] = random.nextInt(3) == 0 ? wild[random.nextInt(wild.length)] : random.nextInt(4);
                }
                callWildly(x, m, arguments);
            }
        }
    }

    private static void callWildly(SharedTaxis x, Method m, Object[] arguments) throws Exception {
        try {
            m.invoke(x, arguments);
        } catch (java.lang.reflect.InvocationTargetException e) {
            Class<?> thrown = e.getCause().getClass();
            boolean said = Arrays.asList(m.getExceptionTypes()).contains(thrown);
            boolean known = thrown == NoSuchElementException.class || thrown == IllegalArgumentException.class;
            Check.due(m.getName() + Arrays.toString(arguments) + " throws " + e.getCause(), said && known ? 1 : 0, 1);
        }
    }
}
