/** Promise 3: load. */
public final class LoadTest {
    public static void main(String[] args) {
        Check check = new Check();
        checkSequence(check);
        checkThatAFaultKeepsThePolicy(check);
        checkSoundTexts(check);
        checkFullPolicy(check);
        checkThatNothingIsLeftOver(check);
        check.end();
    }

    private static void checkSequence(Check check) {
        TypeGuard guard = new TypeGuard();
        check.same("an empty text", 1, Check.load(guard, ""));
        check.same("blanks", 2, Check.load(guard, "      "));
        check.same("a type", 3, Check.load(guard, "type a;"));
        check.same("a fault", Check.ILLEGAL, Check.load(guard, "type a"));
        check.same("characters", 0, guard.count(5));
        check.same("behind a fault", 4, Check.load(guard, "type a;bool q true;"));
        guard.flip(0, false);
        check.same("behind a flip", 6, Check.load(guard, "type a;"));
        check.same("an empty text takes the policy away", 7, Check.load(guard, ""));
        check.same("types", 0, guard.count(0));
    }

    private static void checkThatAFaultKeepsThePolicy(Check check) {
        TypeGuard guard = Check.loaded("class f{x y};attribute d;type a,d;bool q true;if q{allow d self:f y;};");
        guard.flip(0, false);
        String[] faulty = {"type b;type b;", "bool q true;@", "class f{x};type a;type b;allow a b:f x;never * *:f x;"};
        for (String text : faulty) {
            check.same(text, Check.ILLEGAL, Check.load(guard, text));
            check.same("number", 2, guard.count(4));
            check.same("types", 1, guard.count(0));
            check.same("rules", 1, guard.count(3));
            check.same("vector", 0, Check.vector(guard, 0, 0, 0, 0));
        }
        check.same("the bool stayed", false, Check.flip(guard, 0, true));
        check.same("vector", 2, Check.vector(guard, 0, 0, 0, 0));
        check.same("load", 4, Check.load(guard, "class f{x y};attribute d;type a,d;bool q false;if q{allow d self:f y;};"));
        check.same("the bool is as the text says", false, Check.flip(guard, 0, false));
        check.same("load", 5, Check.load(guard, "class g{x};type a;type b;attribute d;allow d *:g x;"));
        check.same("no type has the attribute now", 0, Check.vector(guard, 0, 0, 1, 0));
    }

    private static void checkSoundTexts(Check check) {
        String[] texts = {
            "type abcdefghi;type a_;type z9_;",
            "  type   a  ;  type b  ;  ",
            "class f{f};",
            "class f{x};class g{x f a};type a;",
            "class x{class2 iff};",
            "attribute d;type a,d,d;",
            "type a;class f{x};allow{a-a}a:f{x x};allow ~{-a}~*:{f f}~*;",
            "type a;class f{x};move a self:f a;move * *:f a;",
            "bool q true;if q{};if q{}else{};",
            "type a;class f{x};bool q true;if q{allow a a:f x;audit a a:f x;hush a a:f x;}else{hush a a:f *;};",
            "type a;class f{x y};never a self:f x;allow a self:f y;allow ~a *:f x;",
            "type a;type b;class f{x};class g{x};never a b:f x;allow b a:f x;allow a a:f x;allow a b:g x;",
            "type a;type b;class f{x};class g{x};move a a:f a;move a b:f b;move b a:f b;move a a:g b;",
            "type a;type b;class f{x};move a self:f a;move b self:f b;move a b:f b;",
            "type a;class f{x};never a a:f x;audit a a:f x;hush a a:f x;",
            "type a;class f{x};allow a a:f x;never a a:f ~*;never ~a a:f x;",
        };
        for (String text : texts) {
            check.sound(text);
        }
    }

    /** Whatever an object has read before, a text means what it means to a new object. */
    private static void checkThatNothingIsLeftOver(Check check) {
        String head = "class f{x y};class g{x};class h{x};class i{x};attribute d;attribute e;type a,d;type b,e;bool q true;";
        String[] texts = {
            head + "allow a a:{f g h i} x;",
            head + "allow ~a ~*:f ~x;hush {d e -a} {e -e}:f *;",
            head + "allow {a -e} {b -d}:f y;",
            head + "allow {d e -a -b} {-b e d}:f *;",
            head + "if q{allow a self:f y;}else{audit * b:f x;};",
            head + "if q{}else{hush ~d ~self",
            head + "if q{hush * *:{f i} x;",
            head + "move a b:f b;move b self:g a;allow b b:g x;",
            head + "never d e:f *;allow e d:f *;audit d self:f *;",
            "type c;type a;class g{y z x};allow c a:g x;",
            "type a;type a;",
            "",
        };
        for (String before : texts) {
            for (String between : texts) {
                for (String text : texts) {
                    TypeGuard used = new TypeGuard();
                    Check.load(used, before);
                    Check.load(used, between);
                    // An empty policy is what a fault leaves in force on a new object.
                    Check.load(used, "");
                    Check.load(used, text);
                    TypeGuard fresh = new TypeGuard();
                    Check.load(fresh, text);
                    check.same("behind " + before + " and " + between, told(fresh), told(used));
                }
            }
        }
    }

    /** All that a policy in force says. */
    private static String told(TypeGuard guard) {
        StringBuilder all = new StringBuilder();
        all.append(guard.fault(0)).append(' ').append(guard.fault(1));
        for (int what = 0; what < 4; what++) {
            all.append(' ').append(guard.count(what));
        }
        for (int s = 0; s < guard.count(0); s++) {
            for (int t = 0; t < guard.count(0); t++) {
                for (int c = 0; c < guard.count(1); c++) {
                    for (int kind = 0; kind < 3; kind++) {
                        all.append(' ').append(guard.vector(kind, s, t, c));
                    }
                    all.append(' ').append(guard.why(s, t, c, 0)).append(' ').append(guard.why(s, t, c, 1));
                }
            }
        }
        return all.toString();
    }

    private static void checkFullPolicy(Check check) {
        StringBuilder text = new StringBuilder("class f{a b c d e f g h};class g{x};class h{x};class i{x};");
        text.append("attribute p;attribute q;attribute r;attribute s;bool t true;bool u true;bool v true;");
        for (int i = 0; i < 12; i++) {
            text.append("type y").append(i).append(",s;");
        }
        for (int i = 0; i < 12; i++) {
            text.append("hush * *:f a;");
        }
        TypeGuard guard = new TypeGuard();
        check.same("a full text", 1, Check.load(guard, text.toString()));
        check.same("types", 12, guard.count(0));
        check.same("classes", 4, guard.count(1));
        check.same("bools", 3, guard.count(2));
        check.same("hushed", 1, Check.vector(guard, 2, 11, 11, 0));
        StringBuilder rules = new StringBuilder("type a;class f{x};bool q true;if q{");
        for (int i = 0; i < 24; i++) {
            rules.append("hush a a:f x;");
        }
        check.same("24 rules", 2, Check.load(guard, rules.append("};").toString()));
        check.same("rules", 24, guard.count(3));
        String mixed = "type a;class f{x y};" + "never a a:f x;move a a:f a;".repeat(11) + "audit a a:f y;allow a a:f y;";
        check.same("24 rules of all kinds", 3, Check.load(guard, mixed));
        check.same("the last", mixed.lastIndexOf("allow"), Check.why(guard, 0, 0, 0, 1));
        check.same("none", -1, Check.why(guard, 0, 0, 0, 0));
    }
}
