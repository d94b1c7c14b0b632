import java.util.Arrays;

/** Calls by their names, so that a row of a test tells itself. */
final class Call {
    private Call() {
    }

    /** What the call answers; an exception ends the test, as no call may throw. */
    static long on(TrickHouses x, String name, int... args) {
        Class<?>[] types = new Class<?>[args.length];
        Arrays.fill(types, int.class);
        try {
            Object[] given = Arrays.stream(args).boxed().toArray();
            return ((Number) TrickHouses.class.getMethod(name, types).invoke(x, given)).longValue();
        } catch (ReflectiveOperationException e) {
            throw new IllegalStateException(told(name, args), e);
        }
    }

    static String told(String name, int... args) {
        String row = Arrays.toString(args);
        return name + "(" + row.substring(1, row.length() - 1) + ")";
    }
}
