/** Promise 10: put. */
public final class PutTest {
    public static void main(String[] args) {
        Check check = new Check();
        TypeGuard guard = Check.loaded("class f{x};class g{x};type a;type b;type c;");
        for (int o = 0; o < 10; o++) {
            check.same("put", "done", Check.put(guard, o, o % 3, o % 2));
        }
        for (int o = 0; o < 10; o++) {
            check.same("type of " + o, o % 3, guard.label(1, o));
            check.same("class of " + o, o % 2, guard.label(2, o));
        }
        check.same("anew", "done", Check.put(guard, 9, 2, 0));
        check.same("type of 9", 2, guard.label(1, 9));
        check.same("class of 9", 0, guard.label(2, 9));
        int[][] wrong = {{10, 0, 0}, {-1, 0, 0}, {0, 3, 1}, {0, -1, 1}, {0, 1, 2}, {0, 1, -1},
            {Integer.MAX_VALUE, 0, 0}, {0, Integer.MAX_VALUE, 0}, {0, 0, Integer.MIN_VALUE}};
        for (int[] w : wrong) {
            check.same(java.util.Arrays.toString(w), Check.NO_SUCH, Check.put(guard, w[0], w[1], w[2]));
        }
        check.same("object 0 keeps its type", 0, guard.label(1, 0));
        check.same("object 0 keeps its class", 0, guard.label(2, 0));
        check.end();
    }
}
