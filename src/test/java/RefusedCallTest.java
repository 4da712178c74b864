import java.util.function.Function;

/** A refused call leaves all as it was, but for what the document says it does. */
public final class RefusedCallTest {
    private static final String POLICY = "class f{x y z};class g{x};type a;type b;bool q true;allow a b:f {x z};"
            + "if q{audit a b:f x;}else{hush b b:f *;};move a b:f b;";
    private static final Check CHECK = new Check();

    public static void main(String[] args) {
        checkType();
        checkCallsOfThePolicy();
        checkLabels();
        checkCallsThatAsk();
        checkRunThatIsNotAllowed();
        checkMakeThatIsNotAllowed();
        CHECK.end();
    }

    /** An object with something of everything: a text, a fault, a flipped bool, labels, entries and notes. */
    private static TypeGuard used() {
        TypeGuard guard = Check.loaded(POLICY);
        guard.flip(0, false);
        guard.flip(0, true);
        guard.enter(0, 0);
        guard.enter(1, 1);
        guard.put(0, 1, 0);
        guard.put(1, 0, 1);
        guard.ask(0, 0, 0);
        guard.ask(1, 0, 7);
        Check.load(guard, "type @");
        Check.write(guard, "type a");
        return guard;
    }

    private static void leavesAll(String call, Object due, Function<TypeGuard, Object> made) {
        TypeGuard guard = used();
        String before = Snapshot.all(guard);
        CHECK.same(call, due, made.apply(guard));
        CHECK.same("all behind " + call, before, Snapshot.all(guard));
    }

    private static void checkType() {
        CHECK.sentence("type: false if n is not 1 .. 8, a byte is not 32 .. 126, or there would be more than 480");
        leavesAll("type of no byte", false, guard -> guard.type(Check.packed(";"), 0));
        leavesAll("type of nine bytes", false, guard -> guard.type(Check.packed(";;;;;;;;"), 9));
        leavesAll("type of a wrong byte", false, guard -> guard.type(Check.packed("abc\u007f"), 4));
        TypeGuard full = Check.loaded(POLICY);
        Check.write(full, " ".repeat(479));
        String before = Snapshot.all(full);
        CHECK.same("type of two more", false, full.type(Check.packed("  "), 2));
        CHECK.same("all behind it", before, Snapshot.all(full));
    }

    private static void checkCallsOfThePolicy() {
        CHECK.sentence("flip, vector, why: NoSuchElementException");
        for (int wrong : new int[] {-1, 1, 2, 3, Integer.MIN_VALUE, Integer.MAX_VALUE}) {
            leavesAll("flip(" + wrong + ", true)", Check.NO_SUCH, guard -> Check.flip(guard, wrong, true));
            leavesAll("flip(" + wrong + ", false)", Check.NO_SUCH, guard -> Check.flip(guard, wrong, false));
        }
        for (int wrong : new int[] {-1, 2}) {
            leavesAll("vector of a wrong source", Check.NO_SUCH, guard -> Check.vector(guard, 0, wrong, 0, 0));
            leavesAll("vector of a wrong target", Check.NO_SUCH, guard -> Check.vector(guard, 0, 0, wrong, 0));
            leavesAll("vector of a wrong class", Check.NO_SUCH, guard -> Check.vector(guard, 0, 0, 0, wrong));
            leavesAll("vector of a wrong kind", Check.NO_SUCH, guard -> Check.vector(guard, wrong == 2 ? 3 : wrong, 0, 0, 0));
            leavesAll("why of a wrong source", Check.NO_SUCH, guard -> Check.why(guard, wrong, 0, 0, 0));
            leavesAll("why of a wrong target", Check.NO_SUCH, guard -> Check.why(guard, 0, wrong, 0, 0));
            leavesAll("why of a wrong class", Check.NO_SUCH, guard -> Check.why(guard, 0, 0, wrong, 0));
        }
        leavesAll("why of a wrong permission", -1, guard -> Check.why(guard, 0, 1, 0, 3));
        leavesAll("vector", 5, guard -> Check.vector(guard, 0, 0, 1, 0));
        leavesAll("flip that changes nothing", true, guard -> Check.flip(guard, 0, true));
    }

    private static void checkLabels() {
        CHECK.sentence("enter, put: NoSuchElementException");
        leavesAll("enter of process -1", Check.NO_SUCH, guard -> Check.enter(guard, -1, 1));
        leavesAll("enter of process 6", Check.NO_SUCH, guard -> Check.enter(guard, 6, 1));
        leavesAll("enter of type -1", Check.NO_SUCH, guard -> Check.enter(guard, 0, -1));
        leavesAll("enter of type 2", Check.NO_SUCH, guard -> Check.enter(guard, 0, 2));
        leavesAll("put of object -1", Check.NO_SUCH, guard -> Check.put(guard, -1, 0, 1));
        leavesAll("put of object 10", Check.NO_SUCH, guard -> Check.put(guard, 10, 0, 1));
        leavesAll("put of type -1", Check.NO_SUCH, guard -> Check.put(guard, 0, -1, 1));
        leavesAll("put of type 2", Check.NO_SUCH, guard -> Check.put(guard, 0, 2, 1));
        leavesAll("put of class -1", Check.NO_SUCH, guard -> Check.put(guard, 0, 0, -1));
        leavesAll("put of class 2", Check.NO_SUCH, guard -> Check.put(guard, 0, 0, 2));
    }

    private static void checkCallsThatAsk() {
        CHECK.sentence("ask, run, make: NoSuchElementException");
        int[][] wrong = {{-1, 0}, {6, 0}, {2, 0}, {0, -1}, {0, 10}, {0, 9}};
        for (int[] w : wrong) {
            String numbers = w[0] + ", " + w[1];
            leavesAll("ask(" + numbers + ", 0)", Check.NO_SUCH, guard -> Check.ask(guard, w[0], w[1], 0));
            leavesAll("run(" + numbers + ")", Check.NO_SUCH, guard -> Check.run(guard, w[0], w[1]));
            leavesAll("make(" + numbers + ", 5)", Check.NO_SUCH, guard -> Check.make(guard, w[0], w[1], 5));
            leavesAll("make(" + numbers + ", 0)", Check.NO_SUCH, guard -> Check.make(guard, w[0], w[1], 0));
        }
        leavesAll("make of object -1", Check.NO_SUCH, guard -> Check.make(guard, 0, 0, -1));
        leavesAll("make of object 10", Check.NO_SUCH, guard -> Check.make(guard, 0, 0, 10));
        CHECK.sentence("make: n has a type (.. nothing is asked then)");
        leavesAll("make of n that has a type", Check.UNSUPPORTED, guard -> Check.make(guard, 0, 0, 1));
        leavesAll("make of n that is o", Check.UNSUPPORTED, guard -> Check.make(guard, 0, 0, 0));
    }

    private static void checkRunThatIsNotAllowed() {
        CHECK.sentence("run: one of these is not allowed (what was asked for was asked for; the process keeps its type)");
        TypeGuard guard = used();
        String before = Snapshot.text(guard) + Snapshot.policy(guard) + Snapshot.labels(guard);
        CHECK.same("a moves to b, which may not enter", Check.UNSUPPORTED, Check.run(guard, 0, 0));
        CHECK.same("hits and misses, entries, noted", "2 2 2 4", asked(guard));
        CHECK.same("b may not run b", Check.UNSUPPORTED, Check.run(guard, 1, 0));
        CHECK.same("hits and misses, entries, noted", "3 2 2 5", asked(guard));
        CHECK.same("all else", before, Snapshot.text(guard) + Snapshot.policy(guard) + Snapshot.labels(guard));
    }

    private static String asked(TypeGuard guard) {
        return guard.cache(0) + " " + guard.cache(1) + " " + guard.cache(2) + " " + guard.cache(4);
    }

    private static void checkMakeThatIsNotAllowed() {
        CHECK.sentence("make: or it is not allowed");
        TypeGuard guard = used();
        String before = Snapshot.text(guard) + Snapshot.policy(guard) + Snapshot.labels(guard);
        CHECK.same("b may not make in b", Check.UNSUPPORTED, Check.make(guard, 1, 0, 9));
        CHECK.same("hits and misses, entries, noted", "1 2 2 3", asked(guard));
        CHECK.same("b may not make in a", Check.UNSUPPORTED, Check.make(guard, 1, 1, 9));
        CHECK.same("hits and misses, entries, noted", "1 3 3 4", asked(guard));
        CHECK.same("all else", before, Snapshot.text(guard) + Snapshot.policy(guard) + Snapshot.labels(guard));
    }
}
