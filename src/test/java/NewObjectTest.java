/** Promise 1: a new object has no text, and a policy without statements is in force, with the number 0. */
public final class NewObjectTest {
    public static void main(String[] args) {
        Check check = new Check();
        TypeGuard guard = new TypeGuard();
        for (int what = 0; what <= 5; what++) {
            check.same("count(" + what + ")", 0, guard.count(what));
        }
        check.same("fault(0)", 0, guard.fault(0));
        check.same("fault(1)", -1, guard.fault(1));
        for (int what = 0; what <= 4; what++) {
            check.same("cache(" + what + ")", 0, guard.cache(what));
            check.same("note(0, " + what + ")", -1, guard.note(0, what));
        }
        for (int k = 0; k < 10; k++) {
            check.same("the type of process " + k, -1, guard.label(0, k));
            check.same("the type of object " + k, -1, guard.label(1, k));
            check.same("the class of object " + k, -1, guard.label(2, k));
        }
        check.same("vector", Check.NO_SUCH, Check.vector(guard, 0, 0, 0, 0));
        check.same("why", Check.NO_SUCH, Check.why(guard, 0, 0, 0, 0));
        check.same("flip", Check.NO_SUCH, Check.flip(guard, 0, true));
        check.same("enter", Check.NO_SUCH, Check.enter(guard, 0, 0));
        check.same("put", Check.NO_SUCH, Check.put(guard, 0, 0, 0));
        check.same("ask", Check.NO_SUCH, Check.ask(guard, 0, 0, 0));
        check.same("run", Check.NO_SUCH, Check.run(guard, 0, 0));
        check.same("make", Check.NO_SUCH, Check.make(guard, 0, 0, 1));
        checkThatObjectsAreApart(check);
        check.end();
    }

    private static void checkThatObjectsAreApart(Check check) {
        TypeGuard used = Check.loaded("class f{x};type a;");
        used.enter(0, 0);
        Check.write(used, "type");
        TypeGuard other = new TypeGuard();
        check.same("number beside a used object", 0, other.count(4));
        check.same("text beside a used object", 0, other.count(5));
        check.same("type beside a used object", -1, other.label(0, 0));
    }
}
