import java.lang.reflect.InvocationTargetException;
import java.lang.reflect.Method;
import java.util.Arrays;
import java.util.Comparator;
import java.util.List;
import java.util.regex.Matcher;
import java.util.regex.Pattern;
import java.util.stream.Collectors;

/**
 * What the tests of promises share. A test is a static method promise(number)_(sentence);
 * each makes its own objects, so that one sentence that is broken shows by its own name.
 */
abstract class Checks {
    static final int HOLD = 0, HAND = 1, SILL = 2, KNEE = 3, NAIL = 4, STEP = 5;
    static final int NONE = -1, BAD = -2, STATE = -3, FULL = -4;
    static final int NOTHING = -11, OUTSIDE = -12, UNLIKE = -13, BELOW = -14, NO_SUCH = -100;
    static final long NO = -4611686018427387904L;
    static final int LEAST_INT = Integer.MIN_VALUE, MOST_INT = Integer.MAX_VALUE;

    private static final Pattern NAME = Pattern.compile("promise(\\d+)_\\w+");
    private static String running = "";
    private static int asked = 0;
    private static int wrong = 0;

    /** A call that is looked at from outside. */
    interface Call {
        long on(BothHandsFull x);
    }

    static void due(String what, long got, long want) {
        asked++;
        if (got != want) {
            say(what + " answered " + got + ", due is " + want);
        }
    }

    static void due(long got, long want) {
        due("it", got, want);
    }

    /** It answers so, and all that can be seen of the object is as it was. */
    static void refused(BothHandsFull x, String what, long want, Call call) {
        String before = seen(x);
        due(what, call.on(x), want);
        asked++;
        String after = seen(x);
        if (!before.equals(after)) {
            say(what + " changed what was " + before + " to " + after);
        }
    }

    private static void say(String fault) {
        wrong++;
        System.out.println(running + ": " + fault);
    }

    /** Runs all that a class tests; every promise from the first to the last has a test there. */
    static void run(Class<?> test, int first, int last) {
        List<Method> methods = Arrays.stream(test.getDeclaredMethods())
            .filter(m -> NAME.matcher(m.getName()).matches())
            .sorted(Comparator.comparingInt(Checks::promiseOf).thenComparing(Method::getName))
            .collect(Collectors.toList());
        for (int p = first; p <= last; p++) {
            int promise = p;
            running = test.getName();
            if (methods.stream().noneMatch(m -> promiseOf(m) == promise)) {
                say("promise " + promise + " has no test");
            }
        }
        for (Method m : methods) {
            runOne(m);
        }
        System.out.println(methods.size() + " tests, " + asked + " answers, " + wrong + " wrong");
        if (wrong != 0) {
            System.exit(1);
        }
    }

    private static int promiseOf(Method m) {
        Matcher name = NAME.matcher(m.getName());
        return name.matches() ? Integer.parseInt(name.group(1)) : 0;
    }

    private static void runOne(Method m) {
        running = m.getName();
        int before = asked;
        try {
            m.setAccessible(true);
            m.invoke(null);
        } catch (InvocationTargetException | IllegalAccessException e) {
            say("threw " + (e.getCause() == null ? e : e.getCause()));
        }
        if (asked == before) {
            say("asks nothing");
        }
    }

    /** All that can be asked without a change, but for THE IMAGE and what no SHEET tells. */
    private static String seen(BothHandsFull x) {
        StringBuilder seen = new StringBuilder();
        for (int what = 0; what < 7; what++) {
            seen.append(x.count(what)).append(' ');
        }
        for (int h = 0; h < x.count(0); h++) {
            for (int what : new int[] {0, 1, 2, 6, 7}) {
                seen.append(x.told(h, what)).append(' ');
            }
        }
        for (int t = 0; t < x.count(1); t++) {
            for (int what = 8; what < 12; what++) {
                seen.append(x.told(t, what)).append(' ');
            }
        }
        for (int s = 0; s < 4; s++) {
            seen.append(x.judge(s, 0)).append(' ').append(x.judge(s, 1)).append(' ').append(x.soonest(s)).append(' ');
        }
        return seen.append(x.asks(1, 0, 0)).toString();
    }

    static void feed(BothHandsFull x, String text) {
        for (int i = 0; i < text.length(); i++) {
            x.feed(text.charAt(i));
        }
    }

    /** The TEXT's number, or by what it is refused. */
    static int text(BothHandsFull x, String text) {
        feed(x, text);
        return x.text();
    }

    /** From now on this is THE RULE. */
    static void rule(BothHandsFull x, String text) {
        x.force(text(x, text));
    }

    /** A SHEET of a sort, with these numbers. */
    static void row(BothHandsFull x, int sheet, int sort, int... cells) {
        x.sheet(sheet, sort, cells.length);
        for (int i = 0; i < cells.length; i++) {
            x.cell(sheet, i, cells[i]);
        }
    }

    /** HOLDS by KIND and NUMBER, two by two. */
    static BothHandsFull holds(int... kindsAndNumbers) {
        BothHandsFull x = new BothHandsFull();
        for (int i = 0; i < kindsAndNumbers.length; i += 2) {
            x.hold(kindsAndNumbers[i], kindsAndNumbers[i + 1]);
        }
        return x;
    }

    /** THINGS come to them, as of thing(), two by two. */
    static BothHandsFull with(BothHandsFull x, int... whatsAndHolds) {
        for (int i = 0; i < whatsAndHolds.length; i += 2) {
            x.thing(whatsAndHolds[i], whatsAndHolds[i + 1]);
        }
        return x;
    }

    /** THE KEY (0, of 2) on a SILL (2), a bag (1, of 3) and a box (2, of 2) in two HANDS (0, 1), which the bag fills. */
    static BothHandsFull fullHands() {
        BothHandsFull x = with(holds(HAND, 0, HAND, 0, SILL, 0), 20, 2, 30, 0, 20, 1);
        x.set(1, 0, 0);
        return x;
    }

    /** As many HOLDS as can be, and as many THINGS, all of which may lie anywhere. */
    static BothHandsFull crowd() {
        return with(holds(HOLD, 9, HOLD, 9, HOLD, 9, HOLD, 9, HOLD, 9), 10, 0, 10, 0, 10, 0, 10, 0, 10, 0);
    }
}
