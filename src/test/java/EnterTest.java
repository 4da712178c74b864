/** Promise 9: enter. */
public final class EnterTest {
    public static void main(String[] args) {
        Check check = new Check();
        TypeGuard guard = Check.loaded("class f{x};type a;type b;");
        for (int p = 0; p < 6; p++) {
            check.same("enter", "done", Check.enter(guard, p, p % 2));
        }
        for (int p = 0; p < 6; p++) {
            check.same("process " + p, p % 2, guard.label(0, p));
        }
        check.same("anew", "done", Check.enter(guard, 5, 0));
        check.same("process 5", 0, guard.label(0, 5));
        int[][] wrong = {{6, 0}, {-1, 0}, {0, 2}, {0, -1}, {Integer.MAX_VALUE, 0}, {0, Integer.MIN_VALUE}};
        for (int[] w : wrong) {
            check.same("enter(" + w[0] + ", " + w[1] + ")", Check.NO_SUCH, Check.enter(guard, w[0], w[1]));
        }
        check.same("process 0 keeps its type", 0, guard.label(0, 0));
        check.same("no asking", 0, guard.cache(1));
        check.same("the number stays", 1, guard.count(4));
        check.end();
    }
}
