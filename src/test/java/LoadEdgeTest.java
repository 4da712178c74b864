/** The edges of promises 1 (a new object), 3 (load) and 5 (count). */
public final class LoadEdgeTest {
    private static final String POLICY = "class f{x};class g{x};type a;type b;bool q true;bool r false;allow a b:f x;"
            + "if q{allow a a:f x;audit b b:g x;}else{hush a b:f x;};if r{}else{hush b a:g x;};";
    private static final String[] FAULTY = {"type", "@", "type a,b;", "type a;type a;",
        "bool a true;bool b true;bool c true;bool d",
        "class f{x};type a;type b;move a a:f a;move a a:f b;", "class f{x};type a;allow a a:f x;never a a:f x;"};
    private static final Check CHECK = new Check();

    public static void main(String[] args) {
        checkNewObject();
        checkEmptyTexts();
        checkThatTheTextIsEmptyThen();
        checkThatAFaultLeavesAllElse();
        checkBools();
        checkNumber();
        checkNumbering();
        checkThatNamesGo();
        checkOtherWhat();
        CHECK.end();
    }

    private static void checkNewObject() {
        CHECK.sentence("No text; a policy without statements is in force, with the number 0; at first none");
        TypeGuard fresh = new TypeGuard();
        String seen = Snapshot.all(fresh);
        CHECK.same("a new object", seen, Snapshot.all(new TypeGuard()));
        for (int what = 0; what <= 5; what++) {
            CHECK.same("count(" + what + ")", 0, fresh.count(what));
        }
        TypeGuard empty = new TypeGuard();
        CHECK.same("the first number", 1, Check.outcome(empty::load));
        CHECK.same("an empty policy in force", seen.replace("policy 0 0 0 0 0", "policy 0 0 0 0 1"), Snapshot.all(empty));
    }

    private static void checkEmptyTexts() {
        CHECK.sentence("A POLICY is STATEMENTS, one behind the other");
        TypeGuard guard = Check.loaded(POLICY);
        CHECK.same("an empty text", 2, Check.outcome(guard::load));
        for (int what = 0; what <= 3; what++) {
            CHECK.same("count(" + what + ")", 0, guard.count(what));
        }
        CHECK.same("blanks", 3, Check.load(guard, " "));
        CHECK.same("type 0", Check.NO_SUCH, Check.enter(guard, 0, 0));
        CHECK.same("bool 0", Check.NO_SUCH, Check.flip(guard, 0, true));
    }

    private static void checkThatTheTextIsEmptyThen() {
        CHECK.sentence("The text (which is empty then, in any case)");
        TypeGuard guard = new TypeGuard();
        for (String text : FAULTY) {
            CHECK.same(text, Check.ILLEGAL, Check.load(guard, text));
            CHECK.same("characters", 0, guard.count(5));
        }
        CHECK.same("nothing of the faulty texts is left", 1, Check.load(guard, "type a;"));
        CHECK.same("characters", 0, guard.count(5));
        CHECK.same("full and faulty", Check.ILLEGAL, Check.load(guard, ";".repeat(480)));
        CHECK.same("characters", 0, guard.count(5));
        CHECK.same("full and sound", 2, Check.load(guard, " ".repeat(480)));
        CHECK.same("characters", 0, guard.count(5));
        CHECK.same("nothing of the sound text is left", 3, Check.load(guard, "type a;"));
        CHECK.same("types", 1, guard.count(0));
    }

    private static void checkThatAFaultLeavesAllElse() {
        CHECK.sentence("IllegalArgumentException: it is FAULTY; the policy stays");
        for (String text : FAULTY) {
            TypeGuard guard = Check.loaded(POLICY);
            guard.flip(0, false);
            guard.enter(2, 0);
            guard.enter(5, 1);
            guard.put(9, 1, 0);
            guard.ask(2, 9, 0);
            guard.ask(5, 9, 0);
            String before = Snapshot.allButText(guard);
            CHECK.same(text, Check.ILLEGAL, Check.load(guard, text));
            CHECK.same("all behind " + text, before, Snapshot.allButText(guard));
            CHECK.same("bool 0", false, Check.flip(guard, 0, false));
            CHECK.same("bool 1", false, Check.flip(guard, 1, false));
            CHECK.same("the number", 2, guard.count(4));
            CHECK.same("a hit still", true, Check.ask(guard, 2, 9, 0));
            CHECK.same("hits", 1, guard.cache(0));
        }
        TypeGuard guard = new TypeGuard();
        String before = Snapshot.allButText(guard);
        CHECK.same("a fault first of all", Check.ILLEGAL, Check.load(guard, "type a;type b;class f{x};allow a b:f x"));
        CHECK.same("all behind it", before, Snapshot.allButText(guard));
    }

    private static void checkBools() {
        CHECK.sentence("its bools are as it says");
        TypeGuard guard = Check.loaded(POLICY);
        guard.flip(0, false);
        guard.flip(1, true);
        CHECK.same("the same text again", 4, Check.load(guard, POLICY));
        CHECK.same("bool 0", true, Check.flip(guard, 0, true));
        CHECK.same("bool 1", false, Check.flip(guard, 1, false));
        CHECK.same("other bools", 5, Check.load(guard, "bool r true;bool q false;bool z true;"));
        CHECK.same("bool 0", true, Check.flip(guard, 0, true));
        CHECK.same("bool 1", false, Check.flip(guard, 1, false));
        CHECK.same("bool 2", true, Check.flip(guard, 2, true));
        CHECK.same("no bool 3", Check.NO_SUCH, Check.flip(guard, 3, true));
    }

    private static void checkNumber() {
        CHECK.sentence("the SEQUENCE number grows by 1");
        TypeGuard guard = new TypeGuard();
        int number = 0;
        for (int i = 0; i < 100; i++) {
            boolean sound = i % 3 != 1;
            number += sound ? 1 : 0;
            CHECK.same("load " + i, sound ? number : Check.ILLEGAL, Check.load(guard, sound ? "bool q true;" : ";"));
            CHECK.same("number", number, guard.count(4));
        }
        CHECK.same("a flip that changes", true, Check.flip(guard, 0, false));
        CHECK.same("load behind a flip", number + 2, Check.outcome(guard::load));
    }

    private static void checkNumbering() {
        CHECK.sentence("Types, classes, bools and rules are numbered from 0 in the order in which they stand");
        TypeGuard guard = CHECK.sound("bool q true;type z;class g{x};attribute d;type a;bool b false;class f{x};"
                + "allow z a:f x;type m;", 3, 2, 2, 1);
        CHECK.same("z to a of f", 1, Check.vector(guard, 0, 0, 1, 1));
        CHECK.same("z to a of g", 0, Check.vector(guard, 0, 0, 1, 0));
        CHECK.same("q", true, Check.flip(guard, 0, true));
        CHECK.same("b", false, Check.flip(guard, 1, false));
    }

    private static void checkThatNamesGo() {
        CHECK.sentence("it is the policy in force");
        TypeGuard guard = Check.loaded("class f{x};attribute d;type a,d;type b;type c,d;bool q true;allow d d:f x;");
        CHECK.same("a smaller one", 2, Check.load(guard, "class f{x};attribute d;type a;type b;type c,d;allow d d:f x;"));
        CHECK.same("a has the attribute no more", 0, Check.vector(guard, 0, 0, 2, 0));
        CHECK.same("c has it still", 1, Check.vector(guard, 0, 2, 2, 0));
        CHECK.same("no bool", Check.NO_SUCH, Check.flip(guard, 0, true));
        CHECK.same("no rule", 3, Check.load(guard, "class f{x};type a;type b;type c;"));
        CHECK.same("rules", 0, guard.count(3));
        CHECK.same("c to c", 0, Check.vector(guard, 0, 2, 2, 0));
        CHECK.same("why", -1, Check.why(guard, 2, 2, 0, 0));
    }

    private static void checkOtherWhat() {
        CHECK.sentence("count: NONE for another what");
        for (String text : new String[] {"", POLICY}) {
            TypeGuard guard = Check.loaded(text);
            for (int what : new int[] {-1, 6, 7, -6, 256, 261, Integer.MIN_VALUE, Integer.MAX_VALUE}) {
                CHECK.same("count(" + what + ")", -1, guard.count(what));
            }
        }
        TypeGuard full = CHECK.sound(POLICY, 2, 2, 2, 5, 1, 0);
        Check.write(full, " ".repeat(480));
        CHECK.same("characters", 480, full.count(5));
    }
}
