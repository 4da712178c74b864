/** The edges of rules: how many, their sets, classes and permissions, what an if may hold, and kinds 5 and 6. */
public final class RuleEdgeTest {
    private static final String HEAD = "class f{x y};class g{y z};attribute d;attribute n;type a,d;type b;bool q true;";
    private static final Check CHECK = new Check();

    public static void main(String[] args) {
        checkHowMany();
        checkHowManyWithinIfs();
        checkRulesWithoutTypes();
        checkThatEachTextBeginsAnew();
        checkItems();
        checkStrayPartsOfSets();
        checkEmptyAndFullSets();
        checkClasses();
        checkPermissions();
        checkEmptyAndFullPermissions();
        checkIfs();
        checkWhatAnIfMayHold();
        checkMovesSideBySide();
        checkNeversSideBySide();
        checkWhereAnAllowStands();
        checkFirstOfBothKinds();
        CHECK.end();
    }

    private static String rules(int many) {
        return "hush a a:f x;".repeat(many);
    }

    private static void checkHowMany() {
        CHECK.sentence("There are at most .. 24 rules; .. kind 4: one more than there may be (.. of a rule at its word)");
        String head = "type a;class f{x};bool q true;";
        CHECK.sound(head, 1, 1, 1, 0);
        CHECK.sound(head + rules(1), 1, 1, 1, 1);
        CHECK.sound(head + rules(23), 1, 1, 1, 23);
        CHECK.sound(head + rules(24), 1, 1, 1, 24);
        CHECK.faulty(4, head + rules(24) + "^hush a a:f x;");
        String[] kinds = {"allow a a:f x;", "audit a a:f x;", "hush a a:f x;", "never a a:f x;", "move a a:f a;"};
        for (String rule : kinds) {
            CHECK.sound(head + rules(23) + rule, 1, 1, 1, 24);
            CHECK.sound(head + rule + rules(23), 1, 1, 1, 24);
            CHECK.faulty(4, head + rules(24) + "^" + rule);
            CHECK.faulty(4, head + rule + rules(23) + "^" + rule);
            CHECK.faulty(4, head + rules(24) + "  ^" + rule.substring(0, 5));
        }
        CHECK.faulty(1, head + rules(24) + "^allowed a a:f x;");
        CHECK.faulty(1, head + rules(24) + "^;");
        CHECK.sentence("(at its name; of a rule at its word): an if, a type, a class are no rules");
        CHECK.sound(head + rules(24) + "if q{};if q{}else{};type b;class g{x};", 2, 2, 1, 24);
        TypeGuard guard = CHECK.sound(head + rules(24));
        CHECK.same("24 again", 2, Check.load(guard, head + rules(24)));
        CHECK.same("25", Check.ILLEGAL, Check.load(guard, head + rules(25)));
        CHECK.same("24 behind 25", 3, Check.load(guard, head + rules(24)));
    }

    private static void checkHowManyWithinIfs() {
        CHECK.sentence("There are at most .. 24 rules");
        String head = "type a;class f{x};bool q true;";
        CHECK.sound(head + "if q{" + rules(24) + "};", 1, 1, 1, 24);
        CHECK.sound(head + "if q{}else{" + rules(24) + "};", 1, 1, 1, 24);
        CHECK.sound(head + rules(8) + "if q{" + rules(8) + "}else{" + rules(8) + "};", 1, 1, 1, 24);
        CHECK.faulty(4, head + "if q{" + rules(24) + "^hush a a:f x;};");
        CHECK.faulty(4, head + "if q{}else{" + rules(24) + "^audit a a:f x;};");
        CHECK.faulty(4, head + rules(12) + "if q{" + rules(12) + "}else{^allow a a:f x;};");
        CHECK.faulty(4, head + "if q{" + rules(12) + "}else{" + rules(12) + "};^move a a:f a;");
        CHECK.faulty(1, head + "if q{" + rules(24) + "^never a a:f x;};");
        CHECK.faulty(1, head + "if q{}else{" + rules(24) + "^move a a:f a;};");
    }

    private static void checkRulesWithoutTypes() {
        CHECK.sentence("* (all types); an attribute: all types that have it");
        CHECK.sound("class f{x};attribute d;allow * *:f x;never * *:f x;", 0, 1, 0, 2);
        CHECK.sound("class f{x};attribute d;allow d ~d:f x;never ~d self:f *;audit {d -d} ~*:f ~x;", 0, 1, 0, 3);
        CHECK.sound("class f{x};attribute d;allow * *:f x;never d self:f x;type a;", 1, 1, 0, 2);
        CHECK.faulty(6, "class f{x};allow * *:f x;^never * *:f x;type a;");
        CHECK.faulty(2, "class f{x};allow ^a *:f x;");
    }

    private static void checkThatEachTextBeginsAnew() {
        CHECK.sentence("A text without fault is LOADED: it is the policy in force");
        String head = "class f{x};class g{x};attribute d;attribute e;";
        String types = "type a,d,e;type b,d;type c;";
        String full = head + types + "allow {a b c d e -a -d -e} {a b c d e -a -d -e}:{f g} x;";
        String[] texts = {"allow a b:f x;", "allow d e:f x;", "allow {c d -e} {a b c -d}:f x;", "allow {a b} {d e -b}:f x;"};
        for (String rule : texts) {
            String due = Snapshot.vectors(Check.loaded(head + types + rule));
            TypeGuard guard = Check.loaded(full);
            for (int number = 2; number <= 4; number++) {
                CHECK.same("load", number, Check.load(guard, number < 4 ? full : head + types + rule));
            }
            CHECK.same("vectors of " + rule, due, Snapshot.vectors(guard));
        }
        TypeGuard guard = Check.loaded(head + types + "allow d e:f x;");
        CHECK.same("load", 2, Check.load(guard, ""));
        CHECK.same("load", 3, Check.load(guard, head + "type a;type b,d;type c,e;allow d e:f x;"));
        CHECK.same("a to a", 0, Check.vector(guard, 0, 0, 0, 0));
        CHECK.same("b to a", 0, Check.vector(guard, 0, 1, 0, 0));
        CHECK.same("a to c", 0, Check.vector(guard, 0, 0, 2, 0));
        CHECK.same("b to c", 1, Check.vector(guard, 0, 1, 2, 0));
        CHECK.same("within an if", Check.ILLEGAL, Check.load(guard, "bool q true;if q{"));
        CHECK.same("the next text begins outside of it", 4, Check.load(guard, "type a;"));
        CHECK.same("types", 1, guard.count(0));
    }

    private static void checkItems() {
        CHECK.sentence("{ ITEMS }, one or more of: a NAME, or - and a NAME");
        for (String set : new String[] {"{a}", "{d}", "{-a}", "{-d}", "{a a}", "{a b d n}", "{-a -b -d -n}", "{a-a}",
            "~{a}", "~{-a}", "{a b a b a b a b a b a b a b a b}"}) {
            CHECK.sound(HEAD + "allow " + set + " a:f x;", 2, 2, 1, 1);
            CHECK.sound(HEAD + "allow a " + set + ":f x;", 2, 2, 1, 1);
            CHECK.sound(HEAD + "move " + set + " " + set + ":f a;", 2, 2, 1, 1);
        }
        for (String set : new String[] {"{^}", "{^;", "{a^;", "{a -^}", "{-^}", "{- ^-a}", "{^~a}", "{a ^~b}", "{^*}", "{a ^*}",
            "{-^*}", "{^{a}}", "{a ^{b}}", "{a^,b}", "~{^}"}) {
            CHECK.faulty(1, HEAD + "allow " + set + " a:f x;");
            CHECK.faulty(1, HEAD + "never a " + set + ":f x;");
            CHECK.faulty(1, HEAD + "move " + set + " a:f a;");
        }
    }

    private static void checkStrayPartsOfSets() {
        CHECK.sentence("SET: perhaps ~ , then a NAME .., or * (all types), or { ITEMS }");
        for (String set : new String[] {"~^~a", "~^;", "^-a", "~^-a", "^}", "^:", "^,"}) {
            CHECK.faulty(1, HEAD + "allow " + set + " a:f x;");
            CHECK.faulty(1, HEAD + "allow a " + set + " :f x;");
        }
        for (String set : new String[] {"a ^*", "a ^a", "* ^a", "{a} ^a", "self ^a", "self ^self", "a^,a", "a ^-b", "*^*"}) {
            CHECK.faulty(1, HEAD + "allow a " + set + ":f x;");
        }
        CHECK.faulty(1, HEAD + "allow a^;");
        CHECK.faulty(1, HEAD + "allow^;");
    }

    /** Which of a and b a set has, as the target of a. */
    private static void dueTypes(String set, int due) {
        TypeGuard guard = Check.loaded(HEAD + "allow a " + set + ":f x;audit " + set + " a:f x;");
        int asTarget = (Integer) Check.vector(guard, 0, 0, 0, 0) | (Integer) Check.vector(guard, 0, 0, 1, 0) << 1;
        int asSource = (Integer) Check.vector(guard, 1, 0, 0, 0) | (Integer) Check.vector(guard, 1, 1, 0, 0) << 1;
        CHECK.same("types of " + set + " as target", due, asTarget);
        CHECK.same("types of " + set + " as source", due, asSource);
    }

    private static void checkEmptyAndFullSets() {
        CHECK.sentence("~ is all types but these; - .. takes out those of that name from all the others");
        dueTypes("*", 3);
        dueTypes("~*", 0);
        dueTypes("n", 0);
        dueTypes("~n", 3);
        dueTypes("{n}", 0);
        dueTypes("~{n}", 3);
        dueTypes("{a b}", 3);
        dueTypes("~{a b}", 0);
        dueTypes("{-a}", 0);
        dueTypes("~{-a}", 3);
        dueTypes("{a -a}", 0);
        dueTypes("{-a a}", 0);
        dueTypes("{a -a a}", 0);
        dueTypes("{a b -d}", 2);
        dueTypes("{d b -a}", 2);
        dueTypes("{a b -n}", 3);
        dueTypes("~{a b -d}", 1);
        dueTypes("{d n b}", 3);
        dueTypes("{n d -b}", 1);
        dueTypes("{a b -d -n}", 2);
        dueTypes("{a b -a -b}", 0);
        dueTypes("{a b -b -a}", 0);
        StringBuilder types = new StringBuilder("class f{x};");
        StringBuilder items = new StringBuilder();
        for (int i = 0; i < 12; i++) {
            types.append("type t").append(i).append(";");
            items.append(" t").append(i);
        }
        TypeGuard guard = Check.loaded(types + "allow {" + items + "} {" + items + " -t0}:f x;audit ~{" + items + "} *:f x;");
        CHECK.same("the last of twelve", 1, Check.vector(guard, 0, 11, 11, 0));
        CHECK.same("the one that is taken out", 0, Check.vector(guard, 0, 11, 0, 0));
        CHECK.same("all but twelve", 0, Check.vector(guard, 1, 11, 11, 0));
        CHECK.sentence("self: each type of the source with itself alone");
        TypeGuard self = Check.loaded(HEAD + "allow * self:f x;audit n self:f x;hush ~* self:f x;");
        for (int s = 0; s < 2; s++) {
            for (int t = 0; t < 2; t++) {
                CHECK.same("self", s == t ? 1 : 0, Check.vector(self, 0, s, t, 0));
                CHECK.same("self of none", 0, Check.vector(self, 1, s, t, 0));
                CHECK.same("self of none", 0, Check.vector(self, 2, s, t, 0));
            }
        }
    }

    private static void checkClasses() {
        CHECK.sentence("CLASSES: a class, or { of one or more }");
        String head = "class f{x};class g{x};class h{x};class i{x};type a;";
        for (String classes : new String[] {"f", "{f}", "{f g}", "{f g h i}", "{i h g f}", "{f f f f f}"}) {
            TypeGuard guard = CHECK.sound(head + "allow a a:" + classes + " x;", 1, 4, 0, 1);
            for (int c = 0; c < 4; c++) {
                CHECK.same("class " + c + " of " + classes, classes.indexOf("fghi".charAt(c)) >= 0 ? 1 : 0,
                        Check.vector(guard, 0, 0, 0, c));
            }
        }
        String[] wrong = {"{^}", "^;", "^*", "^~f", "{f ^-g}", "{^~f}", "{^*}", "{f^,g}", "{f^;", "{f ^{g}}", "f^:"};
        for (String classes : wrong) {
            CHECK.faulty(1, head + "allow a a:" + classes + " x;");
        }
        CHECK.sentence("move SOURCE TARGET : C T ;   (a move to the type T)");
        String[] moved = {"^", "^{f} a", "^* a", "^~f a", "f ^{a}", "f ^*", "f ^~a", "f ^", "f a^,a", "f a ^a"};
        for (String classes : moved) {
            CHECK.faulty(1, head + "move a a:" + classes + ";");
        }
        for (String classes : new String[] {"^a a", "^j a", "^x a", "^d a", "f ^d", "f ^f", "f ^x", "f ^b"}) {
            CHECK.faulty(2, head + "attribute d;move a a:" + classes + ";");
        }
    }

    private static void checkPermissions() {
        CHECK.sentence("PERMS: perhaps ~ , then P, or * , or { of one or more P }, each a permission of each of the classes");
        for (String perms : new String[] {"x", "~x", "*", "~*", "{x}", "{x y}", "~{x y}", "{x x x x}"}) {
            CHECK.sound(HEAD + "allow a a:f " + perms + ";", 2, 2, 1, 1);
        }
        String[] wrong = {"^", "~^", "{^}", "~{^}", "{x^", "{x^,y}", "{x ^-y}", "{^*}", "{x ^~y}", "~^~x", "^-x", "x ^y", "*^*",
            "* ^x", "{x}^{y}", "x^,y"};
        for (String perms : wrong) {
            CHECK.faulty(1, HEAD + "allow a a:f " + perms + ";");
        }
        CHECK.sound(HEAD + "allow a a:{f g} y;");
        CHECK.faulty(2, HEAD + "allow a a:{f g} ^x;");
        CHECK.faulty(2, HEAD + "allow a a:{f g} ^z;");
        CHECK.faulty(2, HEAD + "allow a a:{f g} {y ^z};");
        CHECK.faulty(2, HEAD + "allow a a:{f g} ~^x;");
        CHECK.faulty(2, HEAD + "allow a a:{f g} ~{y ^x};");
        CHECK.faulty(2, HEAD + "allow a a:f ^z;");
        CHECK.sound(HEAD + "allow a a:{f g} *;allow a a:{f g} ~*;");
    }

    private static void checkEmptyAndFullPermissions() {
        CHECK.sentence("~ and * for each class by itself");
        String head = "class f{a b c d e f g h};class i{h};type t;";
        duePermissions(head, "f *", 255, 0);
        duePermissions(head, "f ~*", 0, 0);
        duePermissions(head, "f a", 1, 0);
        duePermissions(head, "f h", 128, 0);
        duePermissions(head, "f ~h", 127, 0);
        duePermissions(head, "f ~a", 254, 0);
        duePermissions(head, "f {a b c d e f g h}", 255, 0);
        duePermissions(head, "f ~{a b c d e f g h}", 0, 0);
        duePermissions(head, "i h", 0, 1);
        duePermissions(head, "i ~h", 0, 0);
        duePermissions(head, "{f i} h", 128, 1);
        duePermissions(head, "{f i} ~h", 127, 0);
        duePermissions(head, "{i f} *", 255, 1);
        duePermissions(head, "{i f} ~*", 0, 0);
    }

    private static void duePermissions(String head, String perms, int first, int second) {
        TypeGuard guard = CHECK.sound(head + "allow t t:" + perms + ";");
        CHECK.same(perms + " of the first", first, Check.vector(guard, 0, 0, 0, 0));
        CHECK.same(perms + " of the second", second, Check.vector(guard, 0, 0, 0, 1));
    }

    private static void checkIfs() {
        CHECK.sentence("if B { RULES } ; or if B { RULES } else { RULES } ;");
        String rule = "allow a a:f x;";
        for (String block : new String[] {"", rule, rule + rule, rule + "audit a a:f x;hush a a:f x;"}) {
            CHECK.sound(HEAD + "if q{" + block + "};");
            CHECK.sound(HEAD + "if q{" + block + "}else{};");
            CHECK.sound(HEAD + "if q{}else{" + block + "};");
            CHECK.sound(HEAD + "if q{" + block + "}else{" + block + "};if q{" + block + "};");
        }
        String[] wrong = {"if q^;", "if^;", "if q {^{};", "if q{}^}", "if q{}^if q{};", "if q{} ^{};", "if q{}else^;",
            "if q{}else ^if q{};", "if q{}else{}^else{};", "if q{};^else{};", "if q{^;};", "if q{^,};", "if ^~q{};", "if ^*{};",
            "if ^{q}{};", "if q^:{};", "if q{}else{^else};", "if q{" + rule + "^;};", "if q{" + rule + "}^" + rule};
        for (String text : wrong) {
            CHECK.faulty(1, HEAD + text);
        }
        for (String name : new String[] {"a", "d", "f", "x", "r", "qq"}) {
            CHECK.faulty(2, HEAD + "if ^" + name + "{};");
        }
    }

    private static void checkWhatAnIfMayHold() {
        CHECK.sentence("of allow, audit and hush alone, or of none");
        String[] others = {"never a a:f x;", "move a a:f a;", "if q{};", "type c;", "class h{x};", "attribute e;",
            "bool r true;", "a;", "self;", "true;", "else{};"};
        for (String other : others) {
            CHECK.faulty(1, HEAD + "if q{^" + other + "};");
            CHECK.faulty(1, HEAD + "if q{hush a a:f x;^" + other + "};");
            CHECK.faulty(1, HEAD + "if q{}else{^" + other + "};");
            CHECK.faulty(1, HEAD + "if q{}else{hush a a:f x;^" + other + "};");
        }
        CHECK.sound(HEAD + "if q{};never a a:f x;if q{}else{};move a a:f a;if q{};type c;", 3, 2, 1, 2);
    }

    private static void checkMovesSideBySide() {
        CHECK.sentence("kind 5: a move that for some source, target and class tells another type than a move before it");
        CHECK.faulty(5, HEAD + "move a b:f a;^move a b:f b;");
        CHECK.sound(HEAD + "move a b:f a;move a b:f a;");
        CHECK.sound(HEAD + "move a b:f a;move b b:f b;");
        CHECK.sound(HEAD + "move a b:f a;move a a:f b;");
        CHECK.sound(HEAD + "move a b:f a;move a b:g b;");
        CHECK.sound(HEAD + "move a b:f a;move b a:f b;");
        CHECK.faulty(5, HEAD + "move {a b} a:f a;^move {b n} {a b}:f b;");
        CHECK.sound(HEAD + "move {a -a} b:f a;move a b:f b;");
        CHECK.sound(HEAD + "move a b:f a;move ~* b:f b;move a n:f b;");
        CHECK.sound(HEAD + "move * self:f a;move a b:f b;move b a:f b;");
        CHECK.faulty(5, HEAD + "move * self:f a;^move b *:f b;");
        CHECK.faulty(5, HEAD + "move b b:f a;^move b self:f b;");
        CHECK.sound(HEAD + "move a self:f a;move b self:f b;");
        CHECK.faulty(5, HEAD + "move d self:f a;^move * self:f b;");
        CHECK.faulty(5, HEAD + "move a a:f a;move b b:f b;move a a:f a;^move a a:f b;move b b:f a;");
        CHECK.faulty(5, HEAD + "move a n:f a;^move * *:f b;type c,n;");
        CHECK.sound(HEAD + "move a n:f a;move * *:f b;type c;");
        CHECK.sentence("There are at most .. 12 types .. kind 5");
        StringBuilder types = new StringBuilder("class f{x};");
        for (int i = 0; i < 12; i++) {
            types.append("type t").append(i).append(";");
        }
        CHECK.faulty(5, types + "move * t11:f t0;^move t11 *:f t11;");
        CHECK.sound(types + "move ~t11 t11:f t0;move t11 *:f t11;");
        CHECK.faulty(5, types + "move t0 *:f t0;^move * t0:f t11;");
    }

    private static void checkNeversSideBySide() {
        CHECK.sentence("kind 6: a never that has a source, target, class and permission which an allow has, too");
        CHECK.faulty(6, HEAD + "allow a b:f x;^never a b:f x;");
        CHECK.sound(HEAD + "allow a b:f x;never b b:f x;");
        CHECK.sound(HEAD + "allow a b:f x;never a a:f x;");
        CHECK.sound(HEAD + "allow a b:f x;never a b:f y;");
        CHECK.sound(HEAD + "allow a b:f y;never a b:g y;");
        CHECK.sound(HEAD + "allow a b:f x;never b a:f x;");
        CHECK.faulty(6, HEAD + "allow a b:{f g} y;^never a b:g y;");
        CHECK.faulty(6, HEAD + "allow * *:f *;^never b b:f {y};");
        CHECK.sound(HEAD + "allow * *:f *;never * *:g *;");
        CHECK.sound(HEAD + "allow * *:{f g} ~y;never * *:{f g} y;");
        CHECK.faulty(6, HEAD + "allow * *:{f g} ~y;^never * *:g z;");
        CHECK.sound(HEAD + "allow * *:{f g} ~*;never * *:{f g} *;");
        CHECK.sound(HEAD + "allow * *:f *;never * *:f ~*;never n *:f *;never * ~*:f *;");
        CHECK.sound(HEAD + "allow * self:f *;never a b:f *;never b a:f *;");
        CHECK.faulty(6, HEAD + "allow * self:f *;^never a *:f x;");
        CHECK.sound(HEAD + "allow a self:f *;never b self:f *;");
        CHECK.faulty(6, HEAD + "allow d self:f *;^never * self:f y;");
        CHECK.sound(HEAD + "audit * *:f *;hush * *:f *;never * *:f *;move * *:f a;");
        CHECK.faulty(6, HEAD + "^never n n:f x;allow * *:f x;type c,n;");
        CHECK.sound(HEAD + "never n n:f x;allow * *:f x;type c;");
        // A source, target, class and permission must be of one allow, not of several together.
        CHECK.sound(HEAD + "allow a a:f x;allow b b:f x;allow a b:g y;allow a b:f y;never a b:f x;");
        CHECK.sound("class f{x y};class g{x y};type a;allow a a:f x;allow a a:g y;never a a:f y;never a a:g x;");
        CHECK.faulty(6, "class f{a b c d e f g h};type t;allow t t:f h;^never t t:f h;");
        CHECK.sound("class f{a b c d e f g h};type t;allow t t:f h;never t t:f ~h;");
    }

    private static void checkWhereAnAllowStands() {
        CHECK.sentence("wherever that stands, also within any if");
        for (String state : new String[] {"true", "false"}) {
            String head = "class f{x};type a;bool q " + state + ";";
            CHECK.faulty(6, head + "if q{allow a a:f x;};^never a a:f x;");
            CHECK.faulty(6, head + "if q{}else{allow a a:f x;};^never a a:f x;");
            CHECK.faulty(6, head + "^never a a:f x;if q{allow a a:f x;};");
            CHECK.faulty(6, head + "^never a a:f x;if q{}else{allow a a:f x;};");
            CHECK.faulty(6, head + "^never a a:f x;allow a a:f x;");
            CHECK.sound(head + "if q{audit a a:f x;}else{hush a a:f x;};never a a:f x;");
        }
    }

    private static void checkFirstOfBothKinds() {
        CHECK.sentence("of both kinds the first such statement, told by the place of its word");
        CHECK.faulty(5, HEAD + "move a a:f a;^move a a:f b;never a a:f x;allow a a:f x;");
        CHECK.faulty(6, HEAD + "move a a:f a;^never a a:f x;move a a:f b;allow a a:f x;");
        CHECK.faulty(6, HEAD + "allow a a:f x;^never a a:f x;never a a:f x;");
        CHECK.faulty(6, HEAD + "never a a:f x;^never a a:f y;allow a a:f y;never a a:f y;");
        CHECK.faulty(5, HEAD + "move a a:f a;   ^move a a:f b;move a a:f b;");
        CHECK.faulty(6, "class f{x};^never * *:f x;type a;allow a a:f x;");
        CHECK.sentence("When all this is right: kind 5 .. kind 6");
        String both = HEAD + "never a a:f x;allow a a:f x;move a a:f a;move a a:f b;";
        CHECK.faulty(1, both + "^;");
        CHECK.faulty(1, both + "type c^");
        CHECK.faulty(2, both + "allow ^c a:f x;");
        CHECK.faulty(3, both + "type ^a;");
        CHECK.faulty(4, both + "bool r true;bool s true;bool ^t true;");
    }
}
