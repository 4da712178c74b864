/** Promise 6: flip. */
public final class FlipTest {
    public static void main(String[] args) {
        Check check = new Check();
        TypeGuard guard = Check.loaded("class f{x y z w};type a;bool q true;bool r false;"
                + "if q{allow a a:f x;}else{allow a a:f y;};if r{allow a a:f z;}else{allow a a:f w;};");
        check.same("at first", 1 | 8, Check.vector(guard, 0, 0, 0, 0));
        check.same("no change", true, Check.flip(guard, 0, true));
        check.same("number", 1, guard.count(4));
        check.same("a change", true, Check.flip(guard, 0, false));
        check.same("number", 2, guard.count(4));
        check.same("vector", 2 | 8, Check.vector(guard, 0, 0, 0, 0));
        check.same("a change", false, Check.flip(guard, 1, true));
        check.same("number", 3, guard.count(4));
        check.same("vector", 2 | 4, Check.vector(guard, 0, 0, 0, 0));
        check.same("no change", false, Check.flip(guard, 0, false));
        check.same("number", 3, guard.count(4));
        check.same("back again", false, Check.flip(guard, 0, true));
        check.same("number", 4, guard.count(4));
        check.same("vector", 1 | 4, Check.vector(guard, 0, 0, 0, 0));
        for (int b : new int[] {-1, 2, 3, Integer.MAX_VALUE, Integer.MIN_VALUE}) {
            check.same("flip(" + b + ")", Check.NO_SUCH, Check.flip(guard, b, true));
        }
        check.same("number", 4, guard.count(4));
        check.same("load", 5, Check.load(guard, "bool r true;"));
        check.same("no second bool now", Check.NO_SUCH, Check.flip(guard, 1, true));
        check.same("as the text says", true, Check.flip(guard, 0, true));
        check.end();
    }
}
