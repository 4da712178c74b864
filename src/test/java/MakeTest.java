/** Promise 14: make. */
public final class MakeTest {
    private static final String HEAD = "class g{x};class f{run entry make};type a;type b;type c;";

    public static void main(String[] args) {
        Check check = new Check();
        checkTypes(check);
        checkTaken(check);
        checkNotAllowed(check);
        checkNoneSuch(check);
        checkNames(check);
        check.end();
    }

    private static TypeGuard guardOf(String rules) {
        TypeGuard guard = Check.loaded(HEAD + rules);
        guard.enter(0, 0);
        guard.enter(1, 1);
        guard.put(0, 1, 1);
        return guard;
    }

    private static void checkTypes(Check check) {
        TypeGuard guard = guardOf("allow * *:f make;move a b:f c;");
        check.same("by a move", 2, Check.make(guard, 0, 0, 9));
        check.same("type", 2, guard.label(1, 9));
        check.same("class", 1, guard.label(2, 9));
        check.same("without a move", 1, Check.make(guard, 1, 0, 8));
        check.same("type", 1, guard.label(1, 8));
        check.same("class", 1, guard.label(2, 8));
        check.same("the process keeps its type", 0, guard.label(0, 0));
        check.same("the object keeps its type", 1, guard.label(1, 0));
        check.same("one was asked for each time", 2, guard.cache(1));
        check.same("no hits", 0, guard.cache(0));
        check.same("in what was made", 2, Check.make(guard, 0, 9, 7));
    }

    private static void checkTaken(Check check) {
        TypeGuard guard = guardOf("allow * *:f make;audit * *:f make;");
        guard.put(3, 2, 0);
        check.same("n has a type", Check.UNSUPPORTED, Check.make(guard, 0, 0, 3));
        check.same("n is o", Check.UNSUPPORTED, Check.make(guard, 0, 0, 0));
        check.same("nothing was asked", 0, guard.cache(0) + guard.cache(1));
        check.same("nothing was noted", 0, guard.cache(4));
        check.same("n keeps its type", 2, guard.label(1, 3));
        check.same("n keeps its class", 0, guard.label(2, 3));
        Check.load(guard, "class f{run entry make};type a;type b;type c;allow * *:f make;");
        check.same("a type without a class is one", Check.UNSUPPORTED, Check.make(guard, 0, 0, 3));
        check.same("nothing was asked", 0, guard.cache(0) + guard.cache(1));
        Check.load(guard, "class g{x};class f{run entry make};type a;type b;allow * *:f make;");
        check.same("a class without a type is none", 1, Check.make(guard, 0, 0, 3));
        check.same("n has o's class", 1, guard.label(2, 3));
    }

    private static void checkNotAllowed(Check check) {
        TypeGuard guard = guardOf("allow * *:f ~make;move a b:f c;");
        check.same("not allowed", Check.UNSUPPORTED, Check.make(guard, 0, 0, 3));
        check.same("type", -1, guard.label(1, 3));
        check.same("class", -1, guard.label(2, 3));
        check.same("it was asked", 1, guard.cache(1));
        int[] due = {0, 1, 1, 2, 0};
        for (int what = 0; what < 5; what++) {
            check.same("note " + what, due[what], guard.note(0, what));
        }
        guard.put(1, 1, 0);
        check.same("a class without a permission 2", Check.UNSUPPORTED, Check.make(guard, 0, 1, 3));
        check.same("it was asked", 2, guard.cache(1));
    }

    private static void checkNoneSuch(Check check) {
        TypeGuard guard = guardOf("allow * *:f make;");
        int[][] wrong = {{2, 0, 3}, {0, 1, 3}, {6, 0, 3}, {-1, 0, 3}, {0, 10, 3}, {0, -1, 3}, {0, 0, 10}, {0, 0, -1},
            {2, 0, 0}, {0, 1, 0}, {Integer.MAX_VALUE, 0, 3}, {0, Integer.MIN_VALUE, 3}, {0, 0, Integer.MAX_VALUE}};
        for (int[] w : wrong) {
            check.same(java.util.Arrays.toString(w), Check.NO_SUCH, Check.make(guard, w[0], w[1], w[2]));
        }
        Check.load(guard, "type a;type b;");
        check.same("no class", Check.NO_SUCH, Check.make(guard, 0, 0, 3));
        check.same("nothing was asked", 0, guard.cache(0) + guard.cache(1));
        check.same("nothing was made", -1, guard.label(1, 3));
    }

    private static void checkNames(Check check) {
        TypeGuard guard = guardOf("allow * *:f make;move a b:f c;");
        check.same("c", 2, Check.make(guard, 0, 0, 4));
        Check.load(guard, "type c;class f{x};");
        check.same("type by name", 0, guard.label(1, 4));
        check.same("class by name", 0, guard.label(2, 4));
    }
}
