import java.lang.reflect.InvocationTargetException;
import java.lang.reflect.Method;
import java.util.Arrays;
import java.util.List;
import java.util.function.Supplier;

/**
 * Single calls, each on an object that is made anew: what it answers, its STATUS, and that nothing else has changed,
 * which a twin of the object tells on which the call was not made.
 */
final class Edge {
    private final Supplier<IvyHouse> maker;
    private final List<String> touched;

    Edge(Supplier<IvyHouse> maker) {
        this(maker, List.of());
    }

    private Edge(Supplier<IvyHouse> maker, List<String> touched) {
        this.maker = maker;
        this.touched = touched;
    }

    static Edge of(String house) {
        return new Edge(() -> Check.housed(house));
    }

    /** The parts of the Probe that a call may change, even if it is refused. */
    Edge touching(String... parts) {
        return new Edge(maker, List.of(parts));
    }

    static long call(IvyHouse x, String name, Object... arguments) {
        for (Method m : IvyHouse.class.getMethods()) {
            if (m.getName().equals(name) && m.getDeclaringClass() == IvyHouse.class) {
                return number(invoke(m, x, arguments));
            }
        }
        throw new IllegalArgumentException(name);
    }

    private static Object invoke(Method m, IvyHouse x, Object... arguments) {
        Object[] fitting = arguments.clone();
        for (int i = 0; i < fitting.length; i++) {
            if (m.getParameterTypes()[i] == long.class) {
                fitting[i] = ((Number) fitting[i]).longValue();
            }
        }
        try {
            return m.invoke(x, fitting);
        } catch (IllegalAccessException | InvocationTargetException e) {
            throw new IllegalStateException(m.getName() + Arrays.toString(arguments), e);
        }
    }

    private static long number(Object answer) {
        return answer instanceof Boolean b ? b ? 1 : 0 : ((Number) answer).longValue();
    }

    private static boolean isYesOrNo(String name) {
        return Arrays.stream(IvyHouse.class.getMethods())
                .anyMatch(m -> m.getName().equals(name) && m.getReturnType() == boolean.class);
    }

    private static String text(String name, Object... arguments) {
        String row = Arrays.toString(arguments);
        return name + "(" + row.substring(1, row.length() - 1) + ")";
    }

    /** Answers this, with STATUS 0 (1 for true). */
    Edge fine(long want, String name, Object... arguments) {
        IvyHouse x = maker.get();
        Check.fine(x, text(name, arguments), call(x, name, arguments), want);
        return this;
    }

    /** Answers something, with STATUS 0. */
    Edge taken(String name, Object... arguments) {
        IvyHouse x = maker.get();
        long none = isYesOrNo(name) ? 0 : IvyHouse.NONE;
        Check.due(text(name, arguments) + " is refused", call(x, name, arguments) == none, false);
        Check.due("status() behind " + text(name, arguments), x.status(), 0);
        return this;
    }

    /** Answers this, with STATUS 0, and changes nothing. */
    Edge quiet(long want, String name, Object... arguments) {
        return fine(want, name, arguments).unchanged(name, arguments);
    }

    /** Tells this FRACTION, and changes nothing else. */
    Edge fraction(long top, long bottom, String name, Object... arguments) {
        IvyHouse x = maker.get();
        Check.fraction(x, text(name, arguments), call(x, name, arguments) == 1, top, bottom);
        touching("fraction").unchanged(name, arguments);
        return this;
    }

    /** Answers NONE or false, with this STATUS, and changes nothing. */
    Edge refused(int status, String name, Object... arguments) {
        IvyHouse x = maker.get();
        long none = isYesOrNo(name) ? 0 : IvyHouse.NONE;
        Check.due(text(name, arguments), call(x, name, arguments), none);
        Check.due("status() behind " + text(name, arguments), x.status(), status);
        return unchanged(name, arguments);
    }

    Edge unchanged(String name, Object... arguments) {
        IvyHouse x = maker.get();
        call(x, name, arguments);
        Check.same("behind " + text(name, arguments), Probe.of(x, touched), Probe.of(maker.get(), touched));
        return this;
    }

    /** The numbers from least to most can be, those beyond are refused by STATUS 1; the others are arguments that can be. */
    Edge limits(int which, long least, long most, String name, Object... arguments) {
        for (long can : new long[] {least, most}) {
            taken(name, with(arguments, which, can));
        }
        for (long cannot : new long[] {Integer.MIN_VALUE, least - 1, most + 1, Integer.MAX_VALUE}) {
            refused(1, name, with(arguments, which, cannot));
        }
        return this;
    }

    private static Object[] with(Object[] arguments, int which, long value) {
        Object[] changed = arguments.clone();
        changed[which] = (int) value;
        return changed;
    }
}
