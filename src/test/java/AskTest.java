/** Promise 12: ask. */
public final class AskTest {
    public static void main(String[] args) {
        Check check = new Check();
        TypeGuard guard = Check.loaded("class f{x y z};class g{y};type a;type b;bool q true;"
                + "allow a b:f {x z};if q{allow b a:g y;};");
        guard.enter(0, 0);
        guard.enter(5, 1);
        guard.put(0, 1, 0);
        guard.put(9, 0, 1);
        check.same("x", true, Check.ask(guard, 0, 0, 0));
        check.same("y", false, Check.ask(guard, 0, 0, 1));
        check.same("z", true, Check.ask(guard, 0, 0, 2));
        check.same("y of g", true, Check.ask(guard, 5, 9, 0));
        check.same("another source", false, Check.ask(guard, 5, 0, 0));
        check.same("another target", false, Check.ask(guard, 0, 9, 0));
        guard.flip(0, false);
        check.same("behind a flip", false, Check.ask(guard, 5, 9, 0));
        guard.flip(0, true);
        check.same("flipped back", true, Check.ask(guard, 5, 9, 0));
        for (int k : new int[] {-1, 3, 7, 8, 9, 31, 32, 34, -32, Integer.MAX_VALUE, Integer.MIN_VALUE}) {
            check.same("permission " + k, false, Check.ask(guard, 0, 0, k));
        }
        checkNoneSuch(check, guard);
        checkNamesThatCountAsNone(check);
        check.end();
    }

    private static void checkNoneSuch(Check check, TypeGuard guard) {
        int asked = guard.cache(0) + guard.cache(1);
        int noted = guard.cache(4);
        int[][] wrong = {{1, 0}, {0, 1}, {6, 0}, {-1, 0}, {0, 10}, {0, -1}, {Integer.MAX_VALUE, 0}, {0, Integer.MIN_VALUE}};
        for (int[] w : wrong) {
            check.same("ask(" + w[0] + ", " + w[1] + ", 0)", Check.NO_SUCH, Check.ask(guard, w[0], w[1], 0));
        }
        check.same("asked", asked, guard.cache(0) + guard.cache(1));
        check.same("noted", noted, guard.cache(4));
    }

    private static void checkNamesThatCountAsNone(Check check) {
        TypeGuard guard = Check.loaded("class f{x};type a;type b;allow a b:f x;");
        guard.enter(0, 0);
        guard.put(0, 1, 0);
        String[] policies = {"type b;class f{x};", "type a;class f{x};", "type a;type b;", "type a;type b;class g{f};", ""};
        for (String text : policies) {
            Check.load(guard, text);
            check.same("with " + text, Check.NO_SUCH, Check.ask(guard, 0, 0, 0));
        }
        Check.load(guard, "type b;type a;class g{y};class f{y x};allow a b:f x;");
        check.same("with new numbers", false, Check.ask(guard, 0, 0, 0));
        check.same("with new numbers", true, Check.ask(guard, 0, 0, 1));
    }
}
