/** The edges of promise 15 (cache): empty, full, one more, and when an entry is stale. */
public final class CacheEdgeTest {
    private static final Check CHECK = new Check();
    private static final String POLICY = twelveTypes() + "bool q true;allow * *:{f g} x;if q{allow * *:f y;};";

    public static void main(String[] args) {
        checkEmpty();
        checkFull();
        checkWrapAround();
        checkThatAHitKeepsItsPlace();
        checkThatAStaleEntryKeepsItsPlace();
        checkThatTheOldestGoesEvenIfItIsFresh();
        checkParts();
        checkPresentNumber();
        checkVectorsOfEntries();
        checkRefusedCalls();
        checkTwoOfOneRun();
        checkOtherWhat();
        CHECK.end();
    }

    private static String twelveTypes() {
        StringBuilder text = new StringBuilder("class f{x y z};class g{x};");
        for (int t = 0; t < 12; t++) {
            text.append("type t").append(t).append(";");
        }
        return text.toString();
    }

    /** Process 0 has type 0; object o has type o. */
    private static TypeGuard guard() {
        TypeGuard guard = Check.loaded(POLICY);
        guard.enter(0, 0);
        for (int o = 0; o < 10; o++) {
            guard.put(o, o, 0);
        }
        return guard;
    }

    private static void askAll(TypeGuard guard, int... objects) {
        for (int o : objects) {
            guard.ask(0, o, 0);
        }
    }

    private static void due(TypeGuard guard, int hits, int misses, int entries, int fresh) {
        CHECK.same("hits", hits, guard.cache(0));
        CHECK.same("misses", misses, guard.cache(1));
        CHECK.same("entries", entries, guard.cache(2));
        CHECK.same("entries with the present number", fresh, guard.cache(3));
    }

    private static void checkEmpty() {
        CHECK.sentence("THE CACHE has at most 6 entries: none at first");
        TypeGuard fresh = new TypeGuard();
        due(fresh, 0, 0, 0, 0);
        CHECK.same("noted", 0, fresh.cache(4));
        // The number of a new object is 0, and an entry that is not there has none.
        CHECK.same("load", 1, Check.outcome(fresh::load));
        due(fresh, 0, 0, 0, 0);
        TypeGuard guard = guard();
        due(guard, 0, 0, 0, 0);
        guard.ask(0, 0, 0);
        due(guard, 0, 1, 1, 1);
    }

    private static void checkFull() {
        CHECK.sentence("else into a new one, if there are 6 in the place of that which was asked for longest ago");
        TypeGuard guard = guard();
        for (int o = 0; o < 6; o++) {
            askAll(guard, o);
            due(guard, 0, o + 1, o + 1, o + 1);
        }
        askAll(guard, 0, 1, 2, 3, 4, 5);
        due(guard, 6, 6, 6, 6);
        askAll(guard, 6);
        due(guard, 6, 7, 6, 6);
        askAll(guard, 1, 2, 3, 4, 5, 6);
        due(guard, 12, 7, 6, 6);
        askAll(guard, 0);
        due(guard, 12, 8, 6, 6);
        askAll(guard, 2, 3, 4, 5, 6, 0);
        due(guard, 18, 8, 6, 6);
        askAll(guard, 1);
        due(guard, 18, 9, 6, 6);
    }

    private static void checkWrapAround() {
        CHECK.sentence("in the place of that which was asked for longest ago");
        TypeGuard guard = guard();
        for (int i = 0; i < 70; i++) {
            askAll(guard, i % 7);
        }
        due(guard, 0, 70, 6, 6);
        TypeGuard six = guard();
        for (int i = 0; i < 72; i++) {
            askAll(six, i % 6);
        }
        due(six, 66, 6, 6, 6);
    }

    private static void checkThatAHitKeepsItsPlace() {
        CHECK.sentence("that which was asked for longest ago");
        for (int kept = 0; kept < 6; kept++) {
            TypeGuard guard = guard();
            askAll(guard, 0, 1, 2, 3, 4, 5, kept);
            due(guard, 1, 6, 6, 6);
            // Five new ones leave the one that was asked for last.
            askAll(guard, 6, 7, 8, 9);
            guard.enter(1, 1);
            guard.ask(1, 0, 0);
            due(guard, 1, 11, 6, 6);
            askAll(guard, kept);
            due(guard, 2, 11, 6, 6);
            guard.ask(1, 1, 0);
            guard.ask(1, 2, 0);
            guard.ask(1, 3, 0);
            guard.ask(1, 4, 0);
            guard.ask(1, 5, 0);
            guard.ask(1, 6, 0);
            askAll(guard, kept);
            due(guard, 2, 18, 6, 6);
        }
    }

    private static void checkThatAStaleEntryKeepsItsPlace() {
        CHECK.sentence("put into the entry of these, if there is one");
        TypeGuard guard = guard();
        askAll(guard, 0, 1, 2, 3, 4, 5);
        guard.flip(0, false);
        due(guard, 0, 6, 6, 0);
        askAll(guard, 3);
        due(guard, 0, 7, 6, 1);
        askAll(guard, 0, 1, 2, 4, 5);
        due(guard, 0, 12, 6, 6);
        askAll(guard, 0, 1, 2, 3, 4, 5);
        due(guard, 6, 12, 6, 6);
        TypeGuard few = guard();
        askAll(few, 0, 1);
        few.flip(0, false);
        askAll(few, 1);
        due(few, 0, 3, 2, 1);
        askAll(few, 2);
        due(few, 0, 4, 3, 2);
    }

    private static void checkThatTheOldestGoesEvenIfItIsFresh() {
        CHECK.sentence("asked for longest ago: not when it was worked out, nor whether it is stale");
        TypeGuard guard = guard();
        askAll(guard, 0, 1, 2, 3, 4, 5);
        guard.flip(0, false);
        askAll(guard, 0, 1);
        askAll(guard, 6, 7, 8, 9);
        due(guard, 0, 12, 6, 6);
        askAll(guard, 0, 1);
        due(guard, 2, 12, 6, 6);
        TypeGuard late = guard();
        askAll(late, 0, 1, 2, 3, 4, 5, 0);
        late.flip(0, false);
        askAll(late, 6);
        due(late, 1, 7, 6, 1);
        askAll(late, 0);
        due(late, 1, 8, 6, 2);
        askAll(late, 1);
        due(late, 1, 9, 6, 3);
        askAll(late, 6, 0, 1);
        due(late, 4, 9, 6, 3);
    }

    private static void checkParts() {
        CHECK.sentence("entries of a source, target and class");
        TypeGuard guard = Check.loaded(POLICY);
        guard.enter(0, 0);
        guard.enter(1, 11);
        guard.enter(2, 0);
        guard.put(0, 0, 0);
        guard.put(1, 11, 0);
        guard.put(2, 0, 1);
        guard.put(3, 0, 0);
        guard.ask(0, 0, 0);
        due(guard, 0, 1, 1, 1);
        guard.ask(1, 0, 0);
        due(guard, 0, 2, 2, 2);
        guard.ask(0, 1, 0);
        due(guard, 0, 3, 3, 3);
        guard.ask(0, 2, 0);
        due(guard, 0, 4, 4, 4);
        guard.ask(2, 3, 2);
        due(guard, 1, 4, 4, 4);
        guard.ask(2, 3, 99);
        due(guard, 2, 4, 4, 4);
        guard.ask(2, 3, -1);
        due(guard, 3, 4, 4, 4);
    }

    private static void checkPresentNumber() {
        CHECK.sentence("if there is an entry of these with the present number, it is a HIT, else a MISS");
        TypeGuard guard = guard();
        askAll(guard, 0);
        guard.flip(0, true);
        due(guard, 0, 1, 1, 1);
        askAll(guard, 0);
        due(guard, 1, 1, 1, 1);
        guard.flip(0, false);
        due(guard, 1, 1, 1, 0);
        guard.flip(0, true);
        due(guard, 1, 1, 1, 0);
        askAll(guard, 0);
        due(guard, 1, 2, 1, 1);
        Check.load(guard, ";");
        due(guard, 1, 2, 1, 1);
        askAll(guard, 0);
        due(guard, 2, 2, 1, 1);
        Check.load(guard, POLICY);
        due(guard, 2, 2, 1, 0);
        askAll(guard, 0);
        due(guard, 2, 3, 1, 1);
        Check.load(guard, "");
        due(guard, 2, 3, 1, 0);
    }

    private static void checkVectorsOfEntries() {
        CHECK.sentence("the vectors are worked out");
        TypeGuard guard = Check.loaded("class f{x};type a;bool q true;if q{allow a a:f x;}else{hush a a:f x;};");
        guard.enter(0, 0);
        guard.put(0, 0, 0);
        for (int i = 0; i < 10; i++) {
            boolean state = i % 2 == 0;
            guard.flip(0, state);
            CHECK.same("miss with " + state, state, Check.ask(guard, 0, 0, 0));
            CHECK.same("hit with " + state, state, Check.ask(guard, 0, 0, 0));
            due(guard, i + 1, i + 1, 1, 1);
        }
        CHECK.same("what is not allowed is hushed", 0, guard.cache(4));
        CHECK.same("audited now", 11, Check.load(guard, "class f{x};type a;allow a a:f x;audit a a:f x;"));
        CHECK.same("allowed", true, Check.ask(guard, 0, 0, 0));
        CHECK.same("noted", 1, guard.cache(4));
    }

    private static void checkRefusedCalls() {
        CHECK.sentence("HITs so far, MISSes: calls that do not ask leave them");
        TypeGuard guard = guard();
        askAll(guard, 0, 0);
        guard.ask(0, 0, 9);
        String before = Snapshot.asked(guard);
        Check.ask(guard, 5, 0, 0);
        Check.ask(guard, 6, 0, 0);
        Check.run(guard, 0, 10);
        Check.make(guard, 0, 0, 10);
        Check.make(guard, 0, 0, 1);
        Check.vector(guard, 0, 0, 0, 0);
        Check.vector(guard, 0, 99, 0, 0);
        Check.why(guard, 0, 0, 0, 0);
        Check.enter(guard, 1, 1);
        Check.put(guard, 1, 1, 1);
        guard.label(0, 0);
        CHECK.same("the cache and the log", before, Snapshot.asked(guard));
    }

    private static void checkTwoOfOneRun() {
        CHECK.sentence("run: It asks for permission 0 first .. permission 1 is asked for");
        TypeGuard guard = Check.loaded(twelveTypes() + "allow * *:f *;move t0 t0:f t1;");
        guard.enter(0, 0);
        for (int o = 0; o < 10; o++) {
            guard.put(o, o, 0);
        }
        askAll(guard, 1, 2, 3, 4, 5);
        CHECK.same("run", 1, Check.run(guard, 0, 0));
        due(guard, 0, 7, 6, 6);
        guard.enter(0, 0);
        askAll(guard, 2, 3, 4, 5, 0);
        due(guard, 5, 7, 6, 6);
        CHECK.same("run again", 1, Check.run(guard, 0, 0));
        due(guard, 7, 7, 6, 6);
        guard.enter(0, 0);
        askAll(guard, 1);
        due(guard, 7, 8, 6, 6);
    }

    private static void checkOtherWhat() {
        CHECK.sentence("cache: NONE for another what");
        TypeGuard guard = guard();
        for (int i = 0; i < 2; i++) {
            for (int what : new int[] {-1, 5, 6, -5, 256, 260, Integer.MIN_VALUE, Integer.MAX_VALUE}) {
                CHECK.same("cache(" + what + ")", -1, guard.cache(what));
            }
            askAll(guard, 0, 1, 2, 3, 4, 5, 6);
        }
    }
}
