/** Promise 2: type. */
public final class TypeTest {
    public static void main(String[] args) {
        Check check = new Check();
        checkOrder(check);
        checkWrongLengths(check);
        checkWrongBytes(check);
        checkLimit(check);
        check.end();
    }

    private static void checkOrder(Check check) {
        TypeGuard guard = new TypeGuard();
        check.same("eight bytes", true, guard.type(Check.packed("type abc"), 8));
        check.same("one byte", true, guard.type(Check.packed(";"), 1));
        check.same("characters", 9, guard.count(5));
        check.same("load", 1, Check.outcome(guard::load));
        check.same("types", 1, guard.count(0));
        TypeGuard lowest = new TypeGuard();
        check.same("the lowest bytes alone", true, lowest.type(Check.packed("\u0001\u00ffbool "), 5));
        check.same("the lowest bytes alone", true, lowest.type(Check.packed("xxxxq tr"), 4));
        check.same("the lowest bytes alone", true, lowest.type(-1L << 24 | Check.packed("ue;"), 3));
        check.same("characters", 12, lowest.count(5));
        check.same("load", 1, Check.outcome(lowest::load));
        check.same("bools", 1, lowest.count(2));
    }

    private static void checkWrongLengths(Check check) {
        TypeGuard guard = new TypeGuard();
        for (int n : new int[] {0, -1, 9, 64, Integer.MIN_VALUE, Integer.MAX_VALUE}) {
            check.same("type(.., " + n + ")", false, guard.type(Check.packed("aaaaaaaa"), n));
        }
        check.same("characters", 0, guard.count(5));
    }

    private static void checkWrongBytes(Check check) {
        TypeGuard guard = new TypeGuard();
        for (int letter : new int[] {0, 9, 10, 31, 127, 128, 160, 255}) {
            check.same("byte " + letter, false, guard.type(letter, 1));
            check.same("byte " + letter + " at the front", false, guard.type((long) letter << 56 | Check.packed("aaaaaaa"), 8));
            check.same("byte " + letter + " at the back", false, guard.type(Check.packed("aaa") << 8 | letter, 4));
            check.same("byte " + letter + " above", true, guard.type((long) letter << 8 | 32, 1));
        }
        check.same("characters", 8, guard.count(5));
        check.same("byte 32", true, guard.type(32, 1));
        check.same("byte 126", true, guard.type(126, 1));
        check.same("all ones", false, guard.type(-1L, 8));
        check.same("characters", 10, guard.count(5));
    }

    private static void checkLimit(Check check) {
        TypeGuard guard = new TypeGuard();
        for (int i = 0; i < 59; i++) {
            guard.type(Check.packed("        "), 8);
        }
        check.same("to 475", true, guard.type(Check.packed("   "), 3));
        check.same("to 483", false, guard.type(Check.packed("        "), 8));
        check.same("to 481", false, guard.type(Check.packed("      "), 6));
        check.same("characters", 475, guard.count(5));
        check.same("to 480", true, guard.type(Check.packed("bool;"), 5));
        check.same("characters", 480, guard.count(5));
        check.same("to 481", false, guard.type(32, 1));
        check.same("load", Check.ILLEGAL, Check.outcome(guard::load));
        check.same("kind", 1, guard.fault(0));
        check.same("place", 479, guard.fault(1));
        check.same("characters", 0, guard.count(5));
        check.same("a new text", true, guard.type(32, 1));
    }
}
