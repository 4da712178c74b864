/** Promise 3: load. */
public final class LoadTest {
    public static void main(String[] args) {
        Check check = new Check();
        checkSequence(check);
        checkThatAFaultKeepsThePolicy(check);
        checkSoundTexts(check);
        checkFullPolicy(check);
        check.end();
    }

    private static void checkSequence(Check check) {
        TypeGuard guard = new TypeGuard();
        check.same("an empty text", 1, Check.load(guard, ""));
        check.same("blanks", 2, Check.load(guard, "      "));
        check.same("a type", 3, Check.load(guard, "type a;"));
        check.same("a fault", Check.ILLEGAL, Check.load(guard, "type a"));
        check.same("characters", 0, guard.count(5));
        check.same("behind a fault", 4, Check.load(guard, "type a;bool q true;"));
        guard.flip(0, false);
        check.same("behind a flip", 6, Check.load(guard, "type a;"));
        check.same("an empty text takes the policy away", 7, Check.load(guard, ""));
        check.same("types", 0, guard.count(0));
    }

    private static void checkThatAFaultKeepsThePolicy(Check check) {
        TypeGuard guard = Check.loaded("class f{x y};attribute d;type a,d;bool q true;if q{allow d self:f y;};");
        guard.flip(0, false);
        for (String text : new String[] {"type b;type b;", "bool q true;@", "class f{x};type a;type b;allow a b:f x;never * *:f x;"}) {
            check.same(text, Check.ILLEGAL, Check.load(guard, text));
            check.same("number", 2, guard.count(4));
            check.same("types", 1, guard.count(0));
            check.same("rules", 1, guard.count(3));
            check.same("vector", 0, Check.vector(guard, 0, 0, 0, 0));
        }
        check.same("the bool stayed", false, Check.flip(guard, 0, true));
        check.same("vector", 2, Check.vector(guard, 0, 0, 0, 0));
        check.same("load", 4, Check.load(guard, "class f{x y};attribute d;type a,d;bool q false;if q{allow d self:f y;};"));
        check.same("the bool is as the text says", false, Check.flip(guard, 0, false));
        check.same("load", 5, Check.load(guard, "class g{x};type a;type b;attribute d;allow d *:g x;"));
        check.same("no type has the attribute now", 0, Check.vector(guard, 0, 0, 1, 0));
    }

    private static void checkSoundTexts(Check check) {
        String[] texts = {
            "type abcdefghi;type a_;type z9_;",
            "  type   a  ;  type b  ;  ",
            "class f{f};",
            "class f{x};class g{x f a};type a;",
            "class x{class2 iff};",
            "attribute d;type a,d,d;",
            "type a;class f{x};allow{a-a}a:f{x x};allow ~{-a}~*:{f f}~*;",
            "type a;class f{x};move a self:f a;move * *:f a;",
            "bool q true;if q{};if q{}else{};",
            "type a;class f{x};bool q true;if q{allow a a:f x;audit a a:f x;hush a a:f x;}else{hush a a:f *;};",
            "type a;class f{x y};never a self:f x;allow a self:f y;allow ~a *:f x;",
            "type a;type b;class f{x};class g{x};never a b:f x;allow b a:f x;allow a a:f x;allow a b:g x;",
            "type a;type b;class f{x};class g{x};move a a:f a;move a b:f b;move b a:f b;move a a:g b;",
            "type a;type b;class f{x};move a self:f a;move b self:f b;move a b:f b;",
            "type a;class f{x};never a a:f x;audit a a:f x;hush a a:f x;",
            "type a;class f{x};allow a a:f x;never a a:f ~*;never ~a a:f x;",
        };
        for (String text : texts) {
            TypeGuard guard = new TypeGuard();
            check.same(text, 1, Check.load(guard, text));
            check.same("kind of " + text, 0, guard.fault(0));
            check.same("place of " + text, -1, guard.fault(1));
        }
    }

    private static void checkFullPolicy(Check check) {
        StringBuilder text = new StringBuilder("class f{a b c d e f g h};class g{x};class h{x};class i{x};");
        text.append("attribute p;attribute q;attribute r;attribute s;bool t true;bool u true;bool v true;");
        for (int i = 0; i < 12; i++) {
            text.append("type y").append(i).append(",s;");
        }
        for (int i = 0; i < 12; i++) {
            text.append("hush * *:f a;");
        }
        TypeGuard guard = new TypeGuard();
        check.same("a full text", 1, Check.load(guard, text.toString()));
        check.same("types", 12, guard.count(0));
        check.same("classes", 4, guard.count(1));
        check.same("bools", 3, guard.count(2));
        check.same("hushed", 1, Check.vector(guard, 2, 11, 11, 0));
        StringBuilder rules = new StringBuilder("type a;class f{x};bool q true;if q{");
        for (int i = 0; i < 24; i++) {
            rules.append("hush a a:f x;");
        }
        check.same("24 rules", 2, Check.load(guard, rules.append("};").toString()));
        check.same("rules", 24, guard.count(3));
    }
}
