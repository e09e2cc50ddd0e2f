import java.lang.reflect.InvocationTargetException;
import java.lang.reflect.Method;
import java.lang.reflect.Modifier;
import java.util.Arrays;
import java.util.Comparator;
import java.util.List;
import java.util.Random;
import java.util.stream.Collectors;

/** No call throws or fails to end, whatever it is given, in whatever state. */
public final class NeverThrowsTest extends Checks {
    private static final int[] WILD = {LEAST_INT, -65536, -1, 0, 1, 2, 4, 5, 10, 41, MOST_INT};
    /** With the calls that make a room fewer than those of which the document still tells. */
    private static final int CALLS_OF_ONE = 300;
    private static final int ROOMS = 5;
    private static final int MIXED_RUNS = 2000;
    private static int wrong = 0;
    private static int calls = 0;

    public static void main(String[] args) throws IllegalAccessException {
        List<Method> face = Arrays.stream(BothHandsFull.class.getDeclaredMethods())
            .filter(m -> Modifier.isPublic(m.getModifiers()))
            .sorted(Comparator.comparing(Method::getName))
            .collect(Collectors.toList());
        for (Method m : face) {
            for (int room = 0; room < ROOMS; room++) {
                allArguments(m, room);
            }
        }
        for (int seed = 0; seed < MIXED_RUNS; seed++) {
            mixed(face, new Random(seed));
        }
        System.out.println(calls + " calls, " + wrong + " threw");
        if (wrong != 0) {
            System.exit(1);
        }
    }

    private static BothHandsFull room(int which) {
        switch (which) {
            case 0:
                return new BothHandsFull();
            case 1:
                return holds(HAND, 0, STEP, 9);
            case 2:
                return withSheets(fullHands());
            case 3:
                return withSheets(crowd());
            default:
                return withSheets(allFull());
        }
    }

    private static BothHandsFull withSheets(BothHandsFull x) {
        row(x, 0, 2, 0, MOST_INT, 12, LEAST_INT, -1, 10, 0);
        row(x, 1, 0, 2, 0, 1);
        x.sheet(2, 1, 0);
        x.image();
        return x;
    }

    /** No TEXT more has room, and no HOLD, and no THING. */
    private static BothHandsFull allFull() {
        BothHandsFull x = with(holds(HAND, 9, HAND, 9, KNEE, 9, SILL, 9, STEP, 9), 91, 0, 10, 1, 50, 2, 90, 3, 90, 4);
        for (int n = 1; n < 6; n++) {
            rule(x, "costs 9*9;bell 1;worth 1;");
        }
        x.set(1, 0, 4);
        return x;
    }

    private static void allArguments(Method m, int room) throws IllegalAccessException {
        int many = m.getParameterCount();
        int rows = 1;
        for (int i = 0; i < many; i++) {
            rows *= WILD.length;
        }
        BothHandsFull x = null;
        for (int r = 0; r < rows; r++) {
            if (r % CALLS_OF_ONE == 0) {
                x = room(room);
            }
            Object[] arguments = new Object[many];
            int rest = r;
            for (int i = 0; i < many; i++) {
                arguments[i] = WILD[rest % WILD.length];
                rest /= WILD.length;
            }
            call(m, x, arguments);
        }
    }

    private static void mixed(List<Method> face, Random random) throws IllegalAccessException {
        BothHandsFull x = room(random.nextInt(ROOMS));
        for (int i = 0; i < CALLS_OF_ONE; i++) {
            Method m = face.get(random.nextInt(face.size()));
            Object[] arguments = new Object[m.getParameterCount()];
            for (int a = 0; a < arguments.length; a++) {
                boolean wild = random.nextInt(5) == 0;
                arguments[a] = wild ? WILD[random.nextInt(WILD.length)] : random.nextInt(6);
            }
            call(m, x, arguments);
        }
    }

    private static void call(Method m, BothHandsFull x, Object[] arguments) throws IllegalAccessException {
        calls++;
        try {
            m.invoke(x, arguments);
        } catch (InvocationTargetException e) {
            wrong++;
            System.out.println(m.getName() + Arrays.toString(arguments) + " threw " + e.getCause());
        }
    }
}
