/** The edges of promises 12 (ask), 13 (run) and 14 (make). */
public final class AskEdgeTest {
    private static final int[] FAR = {Integer.MIN_VALUE, -33, -32, -9, -2, -1, 8, 9, 31, 32, 33, 39, 64, 256, Integer.MAX_VALUE};
    private static final Check CHECK = new Check();

    public static void main(String[] args) {
        checkPermissions();
        checkNumbersOfAsk();
        checkLabelsOfAsk();
        checkClassesOfRun();
        checkNewTypeOfRun();
        checkWhatRunAsksFor();
        checkMovesWithinNames();
        checkMovesOfFullAndFormerPolicies();
        checkClassesOfMake();
        checkObjectsThatAreFull();
        checkNamesOfMake();
        checkOrderOfRefusals();
        checkWhatMakeAsksFor();
        CHECK.end();
    }

    private static void dueAsked(String what, TypeGuard guard, int asked, int noted) {
        CHECK.same("asked for by " + what, asked, guard.cache(0) + guard.cache(1));
        CHECK.same("noted by " + what, noted, guard.cache(4));
    }

    private static void checkPermissions() {
        CHECK.sentence("Allowed is what the vector has (a k that the class has not is not)");
        String names = "abcdefgh";
        for (int many = 1; many <= 8; many++) {
            StringBuilder perms = new StringBuilder();
            for (int k = 0; k < many; k++) {
                perms.append(names.charAt(k)).append(' ');
            }
            TypeGuard guard = Check.labelled("class f{" + perms + "};type t;allow t t:f *;hush t t:f *;");
            for (int k = 0; k < 8; k++) {
                CHECK.same("permission " + k + " of " + many, k < many, Check.ask(guard, 0, 0, k));
            }
            CHECK.same("noted", 8 - many, guard.cache(4));
            for (int k : FAR) {
                CHECK.same("permission " + k + " of " + many, false, Check.ask(guard, 0, 0, k));
                CHECK.same("note of permission " + k, k, guard.note(0, 3));
            }
            CHECK.same("noted", 8 - many + FAR.length, guard.cache(4));
            CHECK.same("one miss, all others hits", "1 " + (7 + FAR.length), guard.cache(1) + " " + guard.cache(0));
        }
    }

    private static void checkNumbersOfAsk() {
        CHECK.sentence("ask: NoSuchElementException: there is no such process or object");
        TypeGuard guard = Check.loaded("class f{x y z};type t;allow t t:f *;");
        for (int p = 0; p < 6; p++) {
            guard.enter(p, 0);
        }
        for (int o = 0; o < 9; o++) {
            guard.put(o, 0, 0);
        }
        int asked = 0;
        for (int p = -2; p < 9; p++) {
            boolean there = p >= 0 && p <= 5;
            asked += there ? 2 : 0;
            CHECK.same("ask(" + p + ", 0, 0)", there ? true : Check.NO_SUCH, Check.ask(guard, p, 0, 0));
            CHECK.same("run(" + p + ", 0)", there ? 0 : Check.NO_SUCH, Check.run(guard, p, 0));
        }
        for (int o = -2; o < 13; o++) {
            boolean there = o >= 0 && o <= 8;
            asked += there ? 2 : 0;
            CHECK.same("ask(0, " + o + ", 0)", there ? true : Check.NO_SUCH, Check.ask(guard, 0, o, 0));
            CHECK.same("run(0, " + o + ")", there ? 0 : Check.NO_SUCH, Check.run(guard, 0, o));
        }
        for (int far : new int[] {Integer.MIN_VALUE, -256, 16, 64, 256, Integer.MAX_VALUE}) {
            CHECK.same("ask(" + far + ", 0, 0)", Check.NO_SUCH, Check.ask(guard, far, 0, 0));
            CHECK.same("ask(0, " + far + ", 0)", Check.NO_SUCH, Check.ask(guard, 0, far, 0));
            CHECK.same("run(" + far + ", 0)", Check.NO_SUCH, Check.run(guard, far, 0));
            CHECK.same("run(0, " + far + ")", Check.NO_SUCH, Check.run(guard, 0, far));
            CHECK.same("make(" + far + ", 0, 9)", Check.NO_SUCH, Check.make(guard, far, 0, 9));
            CHECK.same("make(0, " + far + ", 9)", Check.NO_SUCH, Check.make(guard, 0, far, 9));
            CHECK.same("make(0, 0, " + far + ")", Check.NO_SUCH, Check.make(guard, 0, 0, far));
        }
        for (int n : new int[] {-1, 10, 11}) {
            CHECK.same("make(0, 0, " + n + ")", Check.NO_SUCH, Check.make(guard, 0, 0, n));
        }
        CHECK.same("make(6, 0, 9)", Check.NO_SUCH, Check.make(guard, 6, 0, 9));
        CHECK.same("make(0, 9, 9)", Check.NO_SUCH, Check.make(guard, 0, 9, 9));
        dueAsked("the calls that were not refused", guard, asked, 0);
        CHECK.same("make(5, 8, 9)", 0, Check.make(guard, 5, 8, 9));
    }

    private static void checkLabelsOfAsk() {
        CHECK.sentence("or one of them has no type, or the object no class");
        String both = "class f{x y z};type a;type b;allow a b:f *;";
        String[] lacking = {"", "class f{x y z};type b;", "class f{x y z};type a;", "type a;type b;",
            "class g{f};type a;type b;"};
        for (String text : lacking) {
            TypeGuard guard = Check.loaded(both);
            guard.enter(0, 0);
            guard.put(0, 1, 0);
            CHECK.same("ask", true, Check.ask(guard, 0, 0, 0));
            Check.load(guard, text);
            CHECK.same("ask with " + text, Check.NO_SUCH, Check.ask(guard, 0, 0, 0));
            CHECK.same("run with " + text, Check.NO_SUCH, Check.run(guard, 0, 0));
            CHECK.same("make with " + text, Check.NO_SUCH, Check.make(guard, 0, 0, 1));
            dueAsked("refused calls", guard, 1, 0);
            Check.load(guard, both);
            CHECK.same("ask again", true, Check.ask(guard, 0, 0, 0));
            dueAsked("the call that was not", guard, 2, 0);
        }
        TypeGuard bare = Check.labelled(both);
        CHECK.same("a process without a type", Check.NO_SUCH, Check.ask(bare, 1, 0, 0));
        CHECK.same("an object without a type", Check.NO_SUCH, Check.ask(bare, 0, 1, 0));
        dueAsked("refused calls", bare, 0, 0);
    }

    private static void checkClassesOfRun() {
        CHECK.sentence("run: It asks for permission 0 first .. permission 1 is asked for");
        TypeGuard one = Check.labelled("class f{x};type a;type b;allow * *:f *;");
        CHECK.same("a class of one permission, no move", 0, Check.run(one, 0, 0));
        TypeGuard moving = Check.labelled("class f{x};type a;type b;allow * *:f *;move a a:f b;");
        CHECK.same("a class of one permission, a move", Check.UNSUPPORTED, Check.run(moving, 0, 0));
        CHECK.same("the type stays", 0, moving.label(0, 0));
        dueAsked("it", moving, 2, 1);
        CHECK.same("permission 1 was not there", "1 0 0 1 0", Check.noted(moving, 0));
        TypeGuard two = Check.labelled("class f{x y};type a;type b;allow * *:f *;move a a:f b;");
        CHECK.same("a class of two permissions, a move", 1, Check.run(two, 0, 0));
        dueAsked("it", two, 2, 0);
    }

    private static void checkNewTypeOfRun() {
        CHECK.sentence("if that is another type, permission 1 is asked for, of the new type to the object's");
        String head = "class f{x y};type a;type b;type c;";
        TypeGuard same = Check.labelled(head + "allow a a:f x;move a a:f a;");
        CHECK.same("a move to the same type", 0, Check.run(same, 0, 0));
        dueAsked("it", same, 1, 0);
        TypeGuard old = Check.labelled(head + "allow a a:f {x y};move a a:f b;");
        CHECK.same("the old type has permission 1", Check.UNSUPPORTED, Check.run(old, 0, 0));
        CHECK.same("the type stays", 0, old.label(0, 0));
        TypeGuard other = Check.labelled(head + "allow a a:f x;allow b {b c}:f y;move a a:f b;");
        CHECK.same("the new type has it to others", Check.UNSUPPORTED, Check.run(other, 0, 0));
        TypeGuard right = Check.labelled(head + "allow a a:f x;allow b a:f y;move a a:f b;");
        CHECK.same("the new type has it to the object's", 1, Check.run(right, 0, 0));
        CHECK.same("the type then", 1, right.label(0, 0));
        CHECK.same("the object keeps its type", 0, right.label(1, 0));
        CHECK.same("the new type may not run it", Check.UNSUPPORTED, Check.run(right, 0, 0));
        CHECK.same("the type stays", 1, right.label(0, 0));
        dueAsked("both", right, 3, 1);
        TypeGuard apart = Check.labelled(head + "allow * *:f *;move a b:f c;move b a:f c;");
        CHECK.same("no move of these", 0, Check.run(apart, 0, 0));
        dueAsked("it", apart, 1, 0);
    }

    private static void checkWhatRunAsksFor() {
        CHECK.sentence("one of these is not allowed (what was asked for was asked for; the process keeps its type)");
        String head = "class f{x y};type a;type b;move a a:f b;";
        TypeGuard first = Check.labelled(head + "allow b a:f *;");
        CHECK.same("permission 0 is not allowed", Check.UNSUPPORTED, Check.run(first, 0, 0));
        dueAsked("it", first, 1, 1);
        CHECK.same("note", "0 0 0 0 0", Check.noted(first, 0));
        CHECK.same("entries", 1, first.cache(2));
        CHECK.same("the type stays", 0, first.label(0, 0));
        TypeGuard second = Check.labelled(head + "allow a a:f *;audit a a:f *;");
        CHECK.same("permission 1 is not allowed", Check.UNSUPPORTED, Check.run(second, 0, 0));
        dueAsked("it", second, 2, 2);
        CHECK.same("the later note", "1 0 0 1 0", Check.noted(second, 0));
        CHECK.same("the earlier note", "0 0 0 0 1", Check.noted(second, 1));
        CHECK.same("entries", 2, second.cache(2));
        CHECK.same("the type stays", 0, second.label(0, 0));
        TypeGuard hushed = Check.labelled(head + "allow a a:f *;hush b a:f y;");
        CHECK.same("permission 1 is not allowed, and hushed", Check.UNSUPPORTED, Check.run(hushed, 0, 0));
        dueAsked("it", hushed, 2, 0);
        TypeGuard both = Check.labelled(head + "allow * *:f *;audit b a:f y;");
        CHECK.same("both are allowed", 1, Check.run(both, 0, 0));
        dueAsked("it", both, 2, 1);
        CHECK.same("note", "1 0 0 1 1", Check.noted(both, 0));
    }

    private static void checkMovesWithinNames() {
        CHECK.sentence("run: its type then");
        StringBuilder text = new StringBuilder("class f{x y z};");
        for (int t = 0; t < 12; t++) {
            text.append("type t").append(t).append(";");
        }
        text.append("allow * *:f *;move ~t11 t11:f t11;move t11 t0:f t0;");
        TypeGuard guard = Check.loaded(text.toString());
        guard.enter(5, 0);
        guard.put(9, 11, 0);
        guard.put(0, 0, 0);
        CHECK.same("to the last type", 11, Check.run(guard, 5, 9));
        CHECK.same("no move of the last type to itself", 11, Check.run(guard, 5, 9));
        CHECK.same("back to the first type", 0, Check.run(guard, 5, 0));
        CHECK.same("no move of the first type to itself", 0, Check.run(guard, 5, 0));
        CHECK.same("made by a move to the last type", 11, Check.make(guard, 5, 9, 8));
        CHECK.same("made without a move", 0, Check.make(guard, 5, 0, 7));
    }

    private static void checkMovesOfFullAndFormerPolicies() {
        CHECK.sentence("the type of the move of its type, the object's type and class, if there is one");
        String head = "class f{x y z};type a;type b;allow * *:f *;";
        TypeGuard full = Check.labelled(head + "hush a a:f x;".repeat(23));
        CHECK.same("24 rules, no move", 0, Check.run(full, 0, 0));
        CHECK.same("24 rules, no move", 0, Check.make(full, 0, 0, 1));
        TypeGuard last = Check.labelled(head + "hush a a:f x;".repeat(22) + "move a a:f b;");
        CHECK.same("the last of 24 rules", 1, Check.make(last, 0, 0, 1));
        CHECK.same("the last of 24 rules", 1, Check.run(last, 0, 0));
        TypeGuard former = Check.labelled(head + "move a a:f b;");
        // Twice, so that whatever held the first policy has been used again.
        CHECK.same("the move is gone", 2, Check.load(former, head));
        CHECK.same("no move", 0, Check.run(former, 0, 0));
        CHECK.same("gone still", 3, Check.load(former, head));
        CHECK.same("no move", 0, Check.run(former, 0, 0));
        CHECK.same("no move", 0, Check.make(former, 0, 0, 1));
        CHECK.same("a faulty text's move", Check.ILLEGAL, Check.load(former, head + "move a a:f b;@"));
        CHECK.same("no move", 0, Check.run(former, 0, 0));
    }

    private static void checkClassesOfMake() {
        CHECK.sentence("make: It asks for permission 2 to o");
        TypeGuard two = Check.labelled("class f{x y};type a;allow a a:f *;");
        CHECK.same("a class of two permissions", Check.UNSUPPORTED, Check.make(two, 0, 0, 1));
        dueAsked("it", two, 1, 1);
        CHECK.same("permission 2 was not there", "0 0 0 2 0", Check.noted(two, 0));
        CHECK.same("nothing was made", -1, two.label(1, 1));
        TypeGuard three = Check.labelled("class f{x y z};type a;allow a a:f z;");
        CHECK.same("a class of three permissions", 0, Check.make(three, 0, 0, 1));
        dueAsked("it", three, 1, 0);
        TypeGuard others = Check.labelled("class f{x y z w};type a;allow a a:f ~z;");
        CHECK.same("all but permission 2", Check.UNSUPPORTED, Check.make(others, 0, 0, 1));
    }

    private static void checkObjectsThatAreFull() {
        CHECK.sentence("UnsupportedOperationException: n has a type (.. nothing is asked then)");
        TypeGuard guard = Check.labelled("class f{x y z};type a;allow a a:f *;audit a a:f *;");
        for (int n = 1; n < 10; n++) {
            CHECK.same("make(0, 0, " + n + ")", 0, Check.make(guard, 0, 0, n));
            CHECK.same("type of " + n, 0, guard.label(1, n));
            CHECK.same("class of " + n, 0, guard.label(2, n));
        }
        for (int n = 0; n < 10; n++) {
            CHECK.same("make(0, 9, " + n + ") when all have types", Check.UNSUPPORTED, Check.make(guard, 0, 9, n));
        }
        CHECK.same("there is no object 10", Check.NO_SUCH, Check.make(guard, 0, 9, 10));
        dueAsked("those that made one", guard, 9, 9);
    }

    private static void checkNamesOfMake() {
        CHECK.sentence("(a name that counts as none is no type ..)");
        String first = "class f{x y z};class g{x};type a;type b;allow a a:f *;";
        TypeGuard guard = Check.labelled(first);
        guard.put(1, 1, 1);
        Check.load(guard, "class f{x y z};class g{x};type a;allow a a:f *;");
        CHECK.same("the type's name is gone", -1, guard.label(1, 1));
        CHECK.same("the class's name is not", 1, guard.label(2, 1));
        CHECK.same("n counts as none", 0, Check.make(guard, 0, 0, 1));
        CHECK.same("o's class", 0, guard.label(2, 1));
        Check.load(guard, first);
        CHECK.same("the old name does not come back", 0, guard.label(1, 1));
        CHECK.same("nor the old class", 0, guard.label(2, 1));
        TypeGuard other = Check.labelled(first);
        other.put(1, 1, 1);
        Check.load(other, "class f{x y z};type a;type b;allow a a:f *;");
        CHECK.same("the class's name alone is gone", -1, other.label(2, 1));
        CHECK.same("n has a type", Check.UNSUPPORTED, Check.make(other, 0, 0, 1));
        dueAsked("it", other, 0, 0);
        Check.load(other, "class f{x y z};type a;");
        CHECK.same("not allowed", Check.UNSUPPORTED, Check.make(other, 0, 0, 1));
        dueAsked("it", other, 1, 1);
        Check.load(other, first);
        CHECK.same("the old name counts again", 1, other.label(1, 1));
        CHECK.same("and the old class", 1, other.label(2, 1));
    }

    private static void checkOrderOfRefusals() {
        CHECK.sentence("NoSuchElementException as for ask, or there is no object n; UnsupportedOperationException: n has a type");
        TypeGuard guard = Check.labelled("class f{x y z};type a;");
        CHECK.same("no type of the process, n has one", Check.NO_SUCH, Check.make(guard, 1, 0, 0));
        CHECK.same("no type of the object, n has one", Check.NO_SUCH, Check.make(guard, 0, 1, 0));
        CHECK.same("no object n, not allowed", Check.NO_SUCH, Check.make(guard, 0, 0, 10));
        CHECK.same("n has a type, not allowed", Check.UNSUPPORTED, Check.make(guard, 0, 0, 0));
        dueAsked("these", guard, 0, 0);
        CHECK.same("not allowed", Check.UNSUPPORTED, Check.make(guard, 0, 0, 9));
        dueAsked("it", guard, 1, 1);
    }

    private static void checkWhatMakeAsksFor() {
        CHECK.sentence("Then n has o's class and the type of the move .., or o's type if there is none");
        String head = "class g{x};class f{x y z};type a;type b;type c;move a b:f c;";
        TypeGuard guard = Check.loaded(head + "allow a b:f z;");
        guard.enter(0, 0);
        guard.put(0, 1, 1);
        CHECK.same("permission 1 of the new type is not asked for", 2, Check.make(guard, 0, 0, 1));
        dueAsked("it", guard, 1, 0);
        CHECK.same("its type", 2, guard.label(1, 1));
        CHECK.same("its class", 1, guard.label(2, 1));
        CHECK.same("the process keeps its type", 0, guard.label(0, 0));
        CHECK.same("not allowed in what was made", Check.UNSUPPORTED, Check.make(guard, 0, 1, 2));
        CHECK.same("nothing was made", -1, guard.label(1, 2));
        CHECK.same("of no class", -1, guard.label(2, 2));
        dueAsked("both", guard, 2, 1);
    }
}
