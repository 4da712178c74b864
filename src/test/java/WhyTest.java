/** Promise 8: why. */
public final class WhyTest {
    public static void main(String[] args) {
        Check check = new Check();
        String text = "class f{x y z};class g{x};type a;type b;bool q false;audit a *:f *;  if q{ allow a b:f x;}"
                + "else{allow a b:f y;}; allow a *:f {x y};hush a a:f z;allow a b:g x;";
        TypeGuard guard = Check.loaded(text);
        int inThen = text.indexOf("allow a b:f x");
        int inElse = text.indexOf("allow a b:f y");
        int outside = text.indexOf("allow a *");
        check.same("x", outside, Check.why(guard, 0, 1, 0, 0));
        check.same("y", inElse, Check.why(guard, 0, 1, 0, 1));
        check.same("y to another target", outside, Check.why(guard, 0, 0, 0, 1));
        check.same("of another class", text.indexOf("allow a b:g"), Check.why(guard, 0, 1, 1, 0));
        guard.flip(0, true);
        check.same("x", inThen, Check.why(guard, 0, 1, 0, 0));
        check.same("y", outside, Check.why(guard, 0, 1, 0, 1));
        check.same("audited and hushed alone", -1, Check.why(guard, 0, 0, 0, 2));
        check.same("another source", -1, Check.why(guard, 1, 1, 0, 0));
        check.same("a class without it", -1, Check.why(guard, 0, 0, 1, 0));
        for (int k : new int[] {-1, 3, 8, 31, 32, 33, -31, -32, Integer.MAX_VALUE, Integer.MIN_VALUE}) {
            check.same("permission " + k, -1, Check.why(guard, 0, 1, 0, k));
        }
        int[][] wrong = {{2, 0, 0}, {-1, 0, 0}, {0, 2, 0}, {0, -1, 0}, {0, 0, 2}, {0, 0, -1}};
        for (int[] w : wrong) {
            check.same(java.util.Arrays.toString(w), Check.NO_SUCH, Check.why(guard, w[0], w[1], w[2], 0));
            check.same("wrong permission too", Check.NO_SUCH, Check.why(guard, w[0], w[1], w[2], 9));
        }
        check.same("a fault", Check.ILLEGAL, Check.load(guard, "     type a"));
        check.same("as before", inThen, Check.why(guard, 0, 1, 0, 0));
        check.same("load", 3, Check.load(guard, "type a;class f{x};allow a a:f x;"));
        check.same("in the new text", 18, Check.why(guard, 0, 0, 0, 0));
        check.same("misses", 0, guard.cache(1));
        check.end();
    }
}
