/** The edges of promise 16 (note): what is noted, none, full, one more, and numbers that are gone. */
public final class NoteEdgeTest {
    private static final Check CHECK = new Check();

    public static void main(String[] args) {
        checkWhatIsNoted();
        checkNone();
        checkLatestEight();
        checkThatWhatIsNotNotedPushesNothing();
        checkParts();
        checkNumbersOfThen();
        checkOtherWhat();
        CHECK.end();
    }

    /** Permission k is allowed, audited, hushed if bit 0, 1, 2 of k is set. */
    private static void checkWhatIsNoted() {
        CHECK.sentence("If it is allowed and audit has it, or it is not and hush has it not, that is NOTED");
        TypeGuard guard = Check.labelled("class f{a b c d e f g h};type t;allow t t:f {b d f h};audit t t:f {c d g h};"
                + "hush t t:f {e f g h};");
        int total = 0;
        for (int k = 0; k < 8; k++) {
            boolean allowed = (k & 1) != 0;
            boolean audited = (k & 2) != 0;
            boolean hushed = (k & 4) != 0;
            CHECK.same("permission " + k, allowed, Check.ask(guard, 0, 0, k));
            boolean due = allowed ? audited : !hushed;
            total += due ? 1 : 0;
            CHECK.same("noted behind " + k, total, guard.cache(4));
            if (due) {
                CHECK.same("note of " + k, "0 0 0 " + k + " " + (allowed ? 1 : 0), Check.noted(guard, 0));
            }
        }
        for (int k : new int[] {-1, 8, 31, 32, 33, 35, Integer.MIN_VALUE, Integer.MAX_VALUE}) {
            CHECK.same("permission " + k, false, Check.ask(guard, 0, 0, k));
            total++;
            CHECK.same("noted behind " + k, total, guard.cache(4));
            CHECK.same("note of " + k, "0 0 0 " + k + " 0", Check.noted(guard, 0));
        }
    }

    private static void checkNone() {
        CHECK.sentence("note: NONE if there is none such");
        TypeGuard fresh = new TypeGuard();
        TypeGuard guard = Check.labelled("class f{x};type t;allow t t:f x;");
        guard.ask(0, 0, 0);
        for (int i = -1; i <= 8; i++) {
            for (int what = -1; what <= 5; what++) {
                CHECK.same("note(" + i + ", " + what + ") of a new object", -1, fresh.note(i, what));
                CHECK.same("note(" + i + ", " + what + ") when nothing was noted", -1, guard.note(i, what));
            }
        }
    }

    private static void checkLatestEight() {
        CHECK.sentence("the log keeps the latest 8; the i-th of the latest notes (0 the latest)");
        TypeGuard guard = Check.labelled("class f{x};type t;");
        for (int total = 1; total <= 26; total++) {
            guard.ask(0, 0, 100 + total);
            CHECK.same("noted", total, guard.cache(4));
            int kept = Math.min(total, 8);
            CHECK.same("the latest of " + total, 100 + total, guard.note(0, 3));
            CHECK.same("the oldest of " + total, 100 + total - kept + 1, guard.note(kept - 1, 3));
            for (int what = 0; what <= 4; what++) {
                CHECK.same("one more than " + kept, -1, guard.note(kept, what));
            }
        }
        for (int i = 0; i < 8; i++) {
            CHECK.same("note " + i, "0 0 0 " + (126 - i) + " 0", Check.noted(guard, i));
        }
        for (int i : new int[] {-1, -2, -8, 8, 9, 16, 25, 26, 256, Integer.MIN_VALUE, Integer.MIN_VALUE + 7, Integer.MAX_VALUE}) {
            CHECK.same("note " + i, "-1 -1 -1 -1 -1", Check.noted(guard, i));
        }
    }

    private static void checkThatWhatIsNotNotedPushesNothing() {
        CHECK.sentence("that is NOTED: the log keeps the latest 8");
        TypeGuard guard = Check.labelled("class f{x y};type t;allow t t:f x;hush t t:f *;");
        for (int k = 20; k < 28; k++) {
            guard.ask(0, 0, k);
        }
        String before = Snapshot.asked(guard).replaceFirst("cache .* log", "log");
        for (int i = 0; i < 20; i++) {
            guard.ask(0, 0, i % 2);
        }
        CHECK.same("the log", before, Snapshot.asked(guard).replaceFirst("cache .* log", "log"));
        CHECK.same("noted", 8, guard.cache(4));
        CHECK.same("asked", 28, guard.cache(0) + guard.cache(1));
    }

    private static void checkParts() {
        CHECK.sentence("the source (what 0), target (1), class (2) .., the permission (3), 1 if it was allowed, else 0 (4)");
        StringBuilder text = new StringBuilder("class c0{x};class c1{x};class c2{x};class c3{a b c d e f g h};");
        for (int t = 0; t < 12; t++) {
            text.append("type t").append(t).append(";");
        }
        text.append("allow t11 t10:c3 h;audit * *:c3 *;");
        TypeGuard guard = Check.loaded(text.toString());
        guard.enter(5, 11);
        guard.put(9, 10, 3);
        CHECK.same("the last of each", true, Check.ask(guard, 5, 9, 7));
        CHECK.same("note", "11 10 3 7 1", Check.noted(guard, 0));
        CHECK.same("not allowed", false, Check.ask(guard, 5, 9, 6));
        CHECK.same("note", "11 10 3 6 0", Check.noted(guard, 0));
        CHECK.same("note before", "11 10 3 7 1", Check.noted(guard, 1));
        guard.enter(0, 0);
        guard.put(0, 0, 0);
        CHECK.same("the first of each", false, Check.ask(guard, 0, 0, 0));
        CHECK.same("note", "0 0 0 0 0", Check.noted(guard, 0));
    }

    private static void checkNumbersOfThen() {
        CHECK.sentence("as they were numbered then");
        TypeGuard guard = Check.loaded("class f{x};class g{x};type a;type b;type c;");
        guard.enter(0, 2);
        guard.put(0, 1, 1);
        guard.ask(0, 0, 0);
        CHECK.same("note", "2 1 1 0 0", Check.noted(guard, 0));
        guard.enter(0, 0);
        guard.put(0, 0, 0);
        CHECK.same("behind new types", "2 1 1 0 0", Check.noted(guard, 0));
        Check.load(guard, "class g{x};type c;type b;type a;class f{x};allow a a:f x;");
        CHECK.same("behind new numbers", "2 1 1 0 0", Check.noted(guard, 0));
        Check.load(guard, "");
        CHECK.same("when the names are gone", "2 1 1 0 0", Check.noted(guard, 0));
        Check.load(guard, ";");
        CHECK.same("behind a fault", "2 1 1 0 0", Check.noted(guard, 0));
        CHECK.same("noted", 1, guard.cache(4));
    }

    private static void checkOtherWhat() {
        CHECK.sentence("note: .. or for another what");
        TypeGuard guard = Check.labelled("class f{x};type t;");
        for (int i = 0; i < 8; i++) {
            guard.ask(0, 0, 0);
        }
        for (int i = 0; i < 8; i++) {
            for (int what : new int[] {-1, 5, 6, -5, 8, 256, 260, Integer.MIN_VALUE, Integer.MAX_VALUE}) {
                CHECK.same("note(" + i + ", " + what + ")", -1, guard.note(i, what));
            }
        }
    }
}
