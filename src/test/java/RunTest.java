/** Promise 13: run. */
public final class RunTest {
    private static final String HEAD = "class f{run entry make};class g{run};attribute d;type a,d;type b;type c;type e;";

    public static void main(String[] args) {
        Check check = new Check();
        checkMoves(check);
        checkWithoutEntry(check);
        checkWithoutRun(check);
        checkMoveToItself(check);
        checkNoneSuch(check);
        checkNames(check);
        check.end();
    }

    private static TypeGuard guardOf(String rules, int processType, int objectType, int c) {
        TypeGuard guard = Check.loaded(HEAD + rules);
        guard.enter(0, processType);
        guard.put(0, objectType, c);
        return guard;
    }

    private static void checkMoves(Check check) {
        TypeGuard guard = guardOf("allow * *:f run;allow c b:f entry;move d b:f c;move b b:f e;", 0, 1, 0);
        check.same("to c", 2, Check.run(guard, 0, 0));
        check.same("type", 2, guard.label(0, 0));
        check.same("two were asked for", 2, guard.cache(1));
        check.same("no move for c", 2, Check.run(guard, 0, 0));
        check.same("one was asked for", 1, guard.cache(0));
        check.same("nothing noted", 0, guard.cache(4));
        guard.enter(0, 0);
        guard.put(0, 0, 0);
        check.same("no move to that target", 0, Check.run(guard, 0, 0));
        TypeGuard other = guardOf("allow * *:{f g} run;allow c b:f entry;move a b:f c;", 0, 1, 1);
        check.same("no move of that class", 0, Check.run(other, 0, 0));
        check.same("the object keeps its type", 1, other.label(1, 0));
        TypeGuard first = guardOf("move a b:f c;move b b:f e;allow * *:f *;", 0, 1, 0);
        check.same("the first rule", 2, Check.run(first, 0, 0));
        TypeGuard self = guardOf("allow * *:f {run entry};move * self:f c;", 1, 1, 0);
        check.same("a move with itself", 2, Check.run(self, 0, 0));
        self.enter(0, 0);
        check.same("not with another", 0, Check.run(self, 0, 0));
    }

    private static void checkWithoutEntry(Check check) {
        TypeGuard guard = guardOf("allow a b:f *;move a b:f c;allow c a:f entry;", 0, 1, 0);
        check.same("c may not enter by b", Check.UNSUPPORTED, Check.run(guard, 0, 0));
        check.same("the type stays", 0, guard.label(0, 0));
        check.same("misses", 2, guard.cache(1));
        check.same("noted", 1, guard.cache(4));
        int[] due = {2, 1, 0, 1, 0};
        for (int what = 0; what < 5; what++) {
            check.same("note " + what, due[what], guard.note(0, what));
        }
        check.same("again", Check.UNSUPPORTED, Check.run(guard, 0, 0));
        check.same("hits", 2, guard.cache(0));
    }

    private static void checkWithoutRun(Check check) {
        TypeGuard guard = guardOf("allow a b:f {entry make};allow c b:f *;move a b:f c;", 0, 1, 0);
        check.same("a may not run b", Check.UNSUPPORTED, Check.run(guard, 0, 0));
        check.same("the type stays", 0, guard.label(0, 0));
        check.same("one was asked for", 1, guard.cache(0) + guard.cache(1));
        check.same("permission", 0, guard.note(0, 3));
    }

    private static void checkMoveToItself(Check check) {
        TypeGuard guard = guardOf("allow a b:f run;move a b:f a;", 0, 1, 0);
        check.same("to itself", 0, Check.run(guard, 0, 0));
        check.same("one was asked for", 1, guard.cache(0) + guard.cache(1));
    }

    private static void checkNoneSuch(Check check) {
        TypeGuard guard = guardOf("allow * *:f *;", 0, 1, 0);
        int[][] wrong = {{1, 0}, {0, 1}, {6, 0}, {-1, 0}, {0, 10}, {0, -1}, {Integer.MIN_VALUE, 0}, {0, Integer.MAX_VALUE}};
        for (int[] w : wrong) {
            check.same("run(" + w[0] + ", " + w[1] + ")", Check.NO_SUCH, Check.run(guard, w[0], w[1]));
        }
        Check.load(guard, "type a;type b;");
        check.same("no class", Check.NO_SUCH, Check.run(guard, 0, 0));
        Check.load(guard, "type a;class f{x};");
        check.same("no type of the object", Check.NO_SUCH, Check.run(guard, 0, 0));
        Check.load(guard, "type b;class f{x};");
        check.same("no type of the process", Check.NO_SUCH, Check.run(guard, 0, 0));
        check.same("nothing was asked", 0, guard.cache(0) + guard.cache(1));
    }

    private static void checkNames(Check check) {
        TypeGuard guard = guardOf("allow * *:f *;move a b:f e;", 0, 1, 0);
        check.same("to e", 3, Check.run(guard, 0, 0));
        Check.load(guard, "type e;");
        check.same("by name", 0, guard.label(0, 0));
    }
}
