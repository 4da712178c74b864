/** Promise 15: cache. */
public final class CacheTest {
    private static final String POLICY = "class f{x y};type a;type b;type c;type d;type e;type g;type h;bool q true;"
            + "allow * *:f x;";

    public static void main(String[] args) {
        Check check = new Check();
        checkHits(check);
        checkStaleEntries(check);
        checkPlaces(check);
        checkStalePlaces(check);
        checkNewNumbers(check);
        check.end();
    }

    private static void due(Check check, TypeGuard guard, int... answers) {
        for (int what = 0; what < answers.length; what++) {
            check.same("cache(" + what + ")", answers[what], guard.cache(what));
        }
    }

    /** Process 0 has type a; object t has type t. */
    private static TypeGuard guard() {
        TypeGuard guard = Check.loaded(POLICY);
        guard.enter(0, 0);
        for (int t = 0; t < 7; t++) {
            guard.put(t, t, 0);
        }
        return guard;
    }

    private static void checkHits(Check check) {
        TypeGuard guard = guard();
        guard.ask(0, 0, 0);
        due(check, guard, 0, 1, 1, 1, 0);
        guard.ask(0, 0, 1);
        due(check, guard, 1, 1, 1, 1, 1);
        guard.ask(0, 0, 99);
        due(check, guard, 2, 1, 1, 1, 2);
        guard.ask(0, 1, 0);
        due(check, guard, 2, 2, 2, 2, 2);
        guard.enter(1, 1);
        guard.ask(1, 0, 0);
        due(check, guard, 2, 3, 3, 3, 2);
        guard.put(9, 0, 0);
        guard.ask(1, 9, 0);
        due(check, guard, 3, 3, 3, 3, 2);
        for (int what : new int[] {-1, 5, 6, Integer.MAX_VALUE, Integer.MIN_VALUE}) {
            check.same("cache(" + what + ")", -1, guard.cache(what));
        }
        TypeGuard classes = Check.loaded("class f{x};class g{x};type a;allow a a:g x;");
        classes.enter(0, 0);
        classes.put(0, 0, 0);
        classes.put(1, 0, 1);
        check.same("of f", false, classes.ask(0, 0, 0));
        check.same("of g", true, classes.ask(0, 1, 0));
        due(check, classes, 0, 2, 2, 2, 1);
    }

    private static void checkStaleEntries(Check check) {
        TypeGuard guard = guard();
        guard.ask(0, 0, 0);
        guard.ask(0, 1, 0);
        guard.flip(0, false);
        due(check, guard, 0, 2, 2, 0, 0);
        guard.ask(0, 0, 0);
        due(check, guard, 0, 3, 2, 1, 0);
        guard.ask(0, 0, 0);
        due(check, guard, 1, 3, 2, 1, 0);
        guard.flip(0, false);
        due(check, guard, 1, 3, 2, 1, 0);
        guard.flip(0, true);
        due(check, guard, 1, 3, 2, 0, 0);
        Check.load(guard, "type");
        guard.ask(0, 0, 0);
        due(check, guard, 1, 4, 2, 1, 0);
        Check.load(guard, POLICY);
        due(check, guard, 1, 4, 2, 0, 0);
        guard.ask(0, 1, 0);
        due(check, guard, 1, 5, 2, 1, 0);
    }

    private static void checkPlaces(Check check) {
        TypeGuard guard = guard();
        for (int t = 0; t < 6; t++) {
            guard.ask(0, t, 0);
        }
        due(check, guard, 0, 6, 6, 6);
        guard.ask(0, 0, 0);
        due(check, guard, 1, 6, 6, 6);
        guard.ask(0, 6, 0);
        due(check, guard, 1, 7, 6, 6);
        guard.ask(0, 0, 0);
        due(check, guard, 2, 7, 6, 6);
        for (int t = 2; t < 7; t++) {
            guard.ask(0, t, 0);
        }
        due(check, guard, 7, 7, 6, 6);
        guard.ask(0, 1, 0);
        due(check, guard, 7, 8, 6, 6);
        guard.ask(0, 0, 0);
        due(check, guard, 7, 9, 6, 6);
    }

    /** A stale entry keeps its place until it is the one asked for longest ago. */
    private static void checkStalePlaces(Check check) {
        TypeGuard guard = guard();
        for (int t = 0; t < 6; t++) {
            guard.ask(0, t, 0);
        }
        guard.flip(0, false);
        guard.ask(0, 0, 0);
        due(check, guard, 0, 7, 6, 1);
        guard.ask(0, 6, 0);
        due(check, guard, 0, 8, 6, 2);
        guard.ask(0, 2, 0);
        due(check, guard, 0, 9, 6, 3);
        guard.ask(0, 1, 0);
        due(check, guard, 0, 10, 6, 4);
        guard.ask(0, 0, 0);
        guard.ask(0, 6, 0);
        guard.ask(0, 2, 0);
        guard.ask(0, 1, 0);
        due(check, guard, 4, 10, 6, 4);
    }

    /** An entry is of numbers: with other numbers the same names have another entry. */
    private static void checkNewNumbers(Check check) {
        TypeGuard guard = Check.loaded("class f{x};type a;type b;allow a a:f x;");
        guard.enter(0, 0);
        guard.put(0, 0, 0);
        check.same("a to a", true, guard.ask(0, 0, 0));
        Check.load(guard, "class f{x};type b;type a;");
        check.same("a to a", false, guard.ask(0, 0, 0));
        due(check, guard, 0, 2, 2, 1);
    }
}
