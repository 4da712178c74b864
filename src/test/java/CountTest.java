/** Promise 5: count. */
public final class CountTest {
    public static void main(String[] args) {
        Check check = new Check();
        TypeGuard guard = Check.loaded("class f{x y};class g{x};attribute d;type a,d;type b;type c;bool q true;"
                + "allow a a:f x;audit a a:f x;hush b b:f x;never c c:f x;move a a:f b;"
                + "if q{allow a a:f y;}else{hush a a:f y;};");
        checkAll(check, guard, 3, 2, 1, 7, 1, 0);
        Check.write(guard, "type a");
        checkAll(check, guard, 3, 2, 1, 7, 1, 6);
        guard.flip(0, false);
        checkAll(check, guard, 3, 2, 1, 7, 2, 6);
        check.same("load", Check.ILLEGAL, Check.outcome(guard::load));
        checkAll(check, guard, 3, 2, 1, 7, 2, 0);
        check.same("load", 3, Check.load(guard, "bool q true;bool r true;if q{};attribute d;"));
        checkAll(check, guard, 0, 0, 2, 0, 3, 0);
        for (int what : new int[] {-1, 6, 7, Integer.MAX_VALUE, Integer.MIN_VALUE}) {
            check.same("count(" + what + ")", -1, guard.count(what));
        }
        check.end();
    }

    private static void checkAll(Check check, TypeGuard guard, int... due) {
        for (int what = 0; what < due.length; what++) {
            check.same("count(" + what + ")", due[what], guard.count(what));
        }
    }
}
