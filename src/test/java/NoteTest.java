/** Promise 16: note, and what is NOTED. */
public final class NoteTest {
    public static void main(String[] args) {
        Check check = new Check();
        checkWhatIsNoted(check);
        checkLatest(check);
        checkNumbersOfThen(check);
        check.end();
    }

    private static void due(Check check, TypeGuard guard, int i, int... parts) {
        for (int what = 0; what < 5; what++) {
            check.same("note(" + i + ", " + what + ")", parts[what], guard.note(i, what));
        }
    }

    private static void checkWhatIsNoted(Check check) {
        TypeGuard guard = Check.loaded("class g{x};class f{v w x y z};type a;type b;allow a b:f {v w x};"
                + "audit a b:f {w y};hush a b:f {x z};");
        guard.enter(0, 0);
        guard.put(0, 1, 1);
        guard.ask(0, 0, 0);
        check.same("allowed, not audited", 0, guard.cache(4));
        guard.ask(0, 0, 1);
        check.same("allowed, audited", 1, guard.cache(4));
        due(check, guard, 0, 0, 1, 1, 1, 1);
        guard.ask(0, 0, 2);
        check.same("allowed, hushed", 1, guard.cache(4));
        guard.ask(0, 0, 3);
        check.same("not allowed, audited", 2, guard.cache(4));
        due(check, guard, 0, 0, 1, 1, 3, 0);
        guard.ask(0, 0, 4);
        check.same("not allowed, hushed", 2, guard.cache(4));
        guard.ask(0, 0, 5);
        check.same("no such permission", 3, guard.cache(4));
        due(check, guard, 0, 0, 1, 1, 5, 0);
        guard.ask(0, 0, -7);
        due(check, guard, 0, 0, 1, 1, -7, 0);
        guard.ask(0, 0, 34);
        due(check, guard, 0, 0, 1, 1, 34, 0);
        guard.put(1, 0, 0);
        guard.ask(0, 1, 0);
        due(check, guard, 0, 0, 0, 0, 0, 0);
        due(check, guard, 5, 0, 1, 1, 1, 1);
        check.same("no seventh", -1, guard.note(6, 0));
        check.same("in all", 6, guard.cache(4));
    }

    private static void checkLatest(Check check) {
        TypeGuard guard = Check.loaded("class f{x};type a;");
        guard.enter(0, 0);
        guard.put(0, 0, 0);
        for (int k = 0; k < 20; k++) {
            guard.ask(0, 0, k);
            check.same("noted", k + 1, guard.cache(4));
            for (int i = 0; i < 10; i++) {
                check.same("permission of note " + i, i < 8 && i <= k ? k - i : -1, guard.note(i, 3));
            }
        }
        int[][] none = {{-1, 0}, {8, 0}, {0, -1}, {0, 5}, {Integer.MAX_VALUE, 0}, {Integer.MIN_VALUE, 0},
            {0, Integer.MAX_VALUE}, {0, Integer.MIN_VALUE}};
        for (int[] n : none) {
            check.same("note(" + n[0] + ", " + n[1] + ")", -1, guard.note(n[0], n[1]));
        }
    }

    private static void checkNumbersOfThen(Check check) {
        TypeGuard guard = Check.loaded("class f{x};class g{x};type a;type b;");
        guard.enter(0, 0);
        guard.put(0, 1, 1);
        guard.ask(0, 0, 0);
        Check.load(guard, "class g{x};type b;type a;");
        due(check, guard, 0, 0, 1, 1, 0, 0);
        guard.ask(0, 0, 0);
        due(check, guard, 0, 1, 0, 0, 0, 0);
        due(check, guard, 1, 0, 1, 1, 0, 0);
        Check.load(guard, "");
        due(check, guard, 0, 1, 0, 0, 0, 0);
    }
}
