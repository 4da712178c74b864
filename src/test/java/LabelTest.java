/** Promise 11: label, and names that count as none or count again. */
public final class LabelTest {
    public static void main(String[] args) {
        Check check = new Check();
        TypeGuard guard = Check.loaded("class f{x};class g{x};type a;type b;type c;");
        guard.enter(0, 0);
        guard.enter(1, 2);
        guard.put(0, 1, 0);
        guard.put(1, 2, 1);
        due(check, guard, 0, 2, 1, 0, 2, 1);
        check.same("other numbers", 2, Check.load(guard, "type c;type x;type b;class g{x};class f{x};"));
        due(check, guard, -1, 0, 2, 1, 0, 0);
        check.same("names of another kind", 3, Check.load(guard, "class a{x};bool b true;attribute c;type f;type g;"));
        due(check, guard, -1, -1, -1, -1, -1, -1);
        check.same("a type without its class", 4, Check.load(guard, "type b;"));
        due(check, guard, -1, -1, 0, -1, -1, -1);
        check.same("a class without its type", 5, Check.load(guard, "class g{x};"));
        due(check, guard, -1, -1, -1, -1, -1, 0);
        check.same("an empty policy", 6, Check.load(guard, ""));
        due(check, guard, -1, -1, -1, -1, -1, -1);
        check.same("all again", 7, Check.load(guard, "type c;type b;type a;class g{x};class f{x};"));
        due(check, guard, 2, 0, 1, 1, 0, 0);
        checkNoneSuch(check, guard);
        checkLikeNames(check);
        check.end();
    }

    private static void due(Check check, TypeGuard guard, int... labels) {
        check.same("type of process 0", labels[0], guard.label(0, 0));
        check.same("type of process 1", labels[1], guard.label(0, 1));
        check.same("type of object 0", labels[2], guard.label(1, 0));
        check.same("class of object 0", labels[3], guard.label(2, 0));
        check.same("type of object 1", labels[4], guard.label(1, 1));
        check.same("class of object 1", labels[5], guard.label(2, 1));
    }

    private static void checkNoneSuch(Check check, TypeGuard guard) {
        int[][] none = {{0, 2}, {1, 2}, {2, 2}, {0, 6}, {0, -1}, {1, 10}, {1, -1}, {2, 10}, {2, -1}, {3, 0}, {-1, 0},
            {0, Integer.MAX_VALUE}, {1, Integer.MIN_VALUE}, {2, Integer.MAX_VALUE}, {Integer.MIN_VALUE, 0}};
        for (int[] n : none) {
            check.same("label(" + n[0] + ", " + n[1] + ")", -1, guard.label(n[0], n[1]));
        }
    }

    private static void checkLikeNames(Check check) {
        TypeGuard guard = Check.loaded("type abcdefghi;type abcdefgh;type bbcdefghi;type a;type a_;type a0;class f{x};");
        for (int t = 0; t < 6; t++) {
            guard.enter(t, t);
        }
        check.same("load", 2, Check.load(guard, "type a0;type a_;type a;type bbcdefghi;type abcdefgh;type abcdefghi;"));
        for (int p = 0; p < 6; p++) {
            check.same("process " + p, 5 - p, guard.label(0, p));
        }
    }
}
