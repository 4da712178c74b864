/** The edges of what a text declares: names, words, and how many of each there may be. */
public final class DeclareEdgeTest {
    private static final String[] WORDS = {"class", "attribute", "type", "bool", "allow", "audit", "hush", "never", "move",
        "if", "else", "true", "false", "self"};
    /** The statements that declare a name, with n in its place. */
    private static final String[] DECLARING = {"class n{x};", "attribute n;", "type n;", "bool n true;"};
    private static final Check CHECK = new Check();

    public static void main(String[] args) {
        checkOnce();
        checkAhead();
        checkPermissionsOfTheirClass();
        checkWords();
        checkNearWords();
        checkHowManyPermissions();
        checkAttributesOfTypes();
        checkBools();
        checkHowManyOfEach();
        checkAllFullAtOnce();
        checkThatEachTextCountsAnew();
        CHECK.end();
    }

    private static String named(String statement, String name) {
        int at = statement.indexOf(" n") + 1;
        return statement.substring(0, at) + name + statement.substring(at + 1);
    }

    private static void checkOnce() {
        CHECK.sentence("A name is declared .. once; the names of types, attributes, classes and bools are of one kind");
        for (String first : DECLARING) {
            CHECK.sound(named(first, "a"));
            for (String second : DECLARING) {
                CHECK.sound(named(first, "a") + named(second, "b"));
                CHECK.faulty(3, named(first, "a") + named(second, "^a"));
                CHECK.faulty(3, named(first, "b") + named(first, "a") + named(second, "^b"));
            }
        }
    }

    private static void checkAhead() {
        CHECK.sentence("A name is declared .. ahead of all others that use it");
        CHECK.sound("attribute d;type a,d;", 1);
        CHECK.faulty(2, "type a,^d;attribute d;");
        CHECK.faulty(2, "type a,^a;");
        CHECK.sound("class f{x};type a;allow a a:f x;", 1, 1, 0, 1);
        CHECK.faulty(2, "class f{x};allow ^a a:f x;type a;");
        CHECK.faulty(2, "class f{x};type a;allow a ^b:f x;type b;");
        CHECK.faulty(2, "class f{x};allow {^d} *:f x;attribute d;");
        CHECK.faulty(2, "type a;allow a a:^f x;class f{x};");
        CHECK.faulty(2, "class f{x};type a;allow a a:{f ^g} x;class g{x};");
        CHECK.faulty(2, "class f{x};type a;move a a:f ^b;type b;");
        CHECK.sound("bool q true;if q{};", 0, 0, 1, 0);
        CHECK.faulty(2, "if ^q{};bool q true;");
        CHECK.sentence("an attribute: all types that have it, wherever they are declared");
        TypeGuard guard = CHECK.sound("class f{x};attribute d;type a;allow a d:f x;type b,d;", 2, 1, 0, 1);
        CHECK.same("to a type that is declared behind the rule", 1, Check.vector(guard, 0, 0, 1, 0));
        CHECK.same("to a type without the attribute", 0, Check.vector(guard, 0, 0, 0, 0));
    }

    private static void checkPermissionsOfTheirClass() {
        CHECK.sentence("permissions are named within their class alone; .. kind 3: .. (a permission twice in its class)");
        CHECK.sound("class f{x};class g{x};", 0, 2);
        CHECK.sound("class f{f};", 0, 1);
        CHECK.sound("type a;attribute d;bool q true;class f{a d q f};", 1, 1, 1);
        CHECK.sound("class f{a d q g};type a;attribute d;bool q true;class g{g};", 1, 2, 1);
        CHECK.faulty(3, "class f{x ^x};");
        CHECK.faulty(3, "class f{x y ^x};");
        CHECK.faulty(3, "class f{a b c d e f g ^a};");
        CHECK.faulty(2, "class f{x};class g{y};type a;allow a a:f ^y;");
        CHECK.faulty(2, "class f{x};class g{y};type a;allow a a:{f g} ^x;");
        CHECK.faulty(2, "class f{x};class g{y};type a;allow a a:{f g} ^y;");
        CHECK.faulty(2, "class f{x};type a;allow a a:f ^f;");
    }

    private static void checkWords() {
        CHECK.sentence("the words below are no names that can be declared; .. kind 3: .. or is one of the words");
        for (String word : WORDS) {
            for (String statement : DECLARING) {
                CHECK.faulty(3, named(statement, "^" + word));
            }
            CHECK.faulty(3, "class f{^" + word + "};");
            CHECK.faulty(3, "class f{x ^" + word + "};");
        }
    }

    private static void checkNearWords() {
        CHECK.sentence("(class attribute type bool allow audit hush never move if else true false self)");
        for (String word : WORDS) {
            String shorter = word.substring(0, word.length() - 1);
            String other = shorter + "0";
            for (String name : new String[] {shorter, other, word.length() < 9 ? word + "_" : other}) {
                for (String statement : DECLARING) {
                    CHECK.sound(named(statement, name));
                }
                CHECK.sound("class f{" + name + "};", 0, 1);
                CHECK.faulty(1, "^" + name + " a;");
            }
        }
        for (String name : new String[] {"source", "target", "set", "item", "rules", "perms", "none", "not"}) {
            CHECK.sound("type " + name + ";", 1);
        }
    }

    private static void checkHowManyPermissions() {
        CHECK.sentence("a class with its 1 to 8 permissions, numbered from 0");
        CHECK.faulty(1, "class f{^};");
        for (int many = 1; many <= 8; many++) {
            TypeGuard guard = CHECK.sound("class f{" + listed(many) + "};type a;allow a a:f *;", 1, 1, 0, 1);
            CHECK.same("all of " + many, (1 << many) - 1, Check.vector(guard, 0, 0, 0, 0));
            for (int k = 0; k < many; k++) {
                TypeGuard one = Check.loaded("class f{" + listed(many) + "};type a;allow a a:f p" + k + ";");
                CHECK.same("number " + k + " of " + many, 1 << k, Check.vector(one, 0, 0, 0, 0));
            }
        }
        CHECK.faulty(4, "class f{" + listed(8) + " ^p8};");
        CHECK.faulty(4, "class f{" + listed(8) + " ^p8");
        CHECK.faulty(3, "class f{" + listed(8) + " ^p7};");
        CHECK.faulty(3, "class f{" + listed(8) + " ^self};");
        CHECK.faulty(1, "class f{" + listed(8) + " ^abcdefghij};");
        CHECK.faulty(1, "class f{" + listed(8) + "^;");
        CHECK.sound("class f{" + listed(8) + "};class g{" + listed(8) + "};class h{" + listed(8) + "};class i{"
                + listed(8) + "};", 0, 4);
        CHECK.faulty(4, "class f{x};class g{" + listed(8) + " ^p8};");
    }

    private static String listed(int many) {
        StringBuilder names = new StringBuilder();
        for (int k = 0; k < many; k++) {
            names.append(k == 0 ? "" : " ").append("p").append(k);
        }
        return names.toString();
    }

    private static void checkAttributesOfTypes() {
        CHECK.sentence("type T ; or type T , A , .. ;   a type that has these attributes");
        String head = "class f{x};attribute d;attribute e;attribute g;attribute h;";
        String[] lists = {"", ",d", ",d,e", ",h,g,e,d", ",d,d,d"};
        for (String list : lists) {
            TypeGuard guard = CHECK.sound(head + "type a" + list + ";allow d a:f x;audit e a:f x;hush {g h} a:f x;", 1, 1, 0, 3);
            CHECK.same("d of a" + list, list.contains("d") ? 1 : 0, Check.vector(guard, 0, 0, 0, 0));
            CHECK.same("e of a" + list, list.contains("e") ? 1 : 0, Check.vector(guard, 1, 0, 0, 0));
            CHECK.same("g, h of a" + list, list.contains("g") ? 1 : 0, Check.vector(guard, 2, 0, 0, 0));
        }
        StringBuilder all = new StringBuilder("class f{x};attribute d;attribute n;");
        for (int i = 0; i < 12; i++) {
            all.append("type t").append(i).append(",d;");
        }
        TypeGuard guard = CHECK.sound(all + "allow d d:f x;audit n n:f x;", 12, 1, 0, 2);
        for (int t = 0; t < 12; t++) {
            CHECK.same("twelve types have the attribute", 1, Check.vector(guard, 0, t, 11 - t, 0));
            CHECK.same("no type has the other", 0, Check.vector(guard, 1, t, 11 - t, 0));
        }
        CHECK.faulty(1, head + "type a,^;");
        CHECK.faulty(1, head + "type a,d,^;");
        CHECK.faulty(1, head + "type a,d,^,e;");
        CHECK.faulty(1, head + "type a ^d;");
        CHECK.faulty(2, head + "type a,d,e,^f;");
    }

    private static void checkBools() {
        CHECK.sentence("bool B true ; or bool B false ;");
        CHECK.same("true", true, Check.flip(CHECK.sound("bool q true;", 0, 0, 1, 0), 0, true));
        CHECK.same("false", false, Check.flip(CHECK.sound("bool q false;", 0, 0, 1, 0), 0, true));
        String[] wrongs = {"^;", "^tru;", "^true0;", "^fals;", "^self;", "^q;", "true ^false;", "^1;", "^~true;"};
        for (String wrong : wrongs) {
            CHECK.faulty(1, "bool q " + wrong);
        }
    }

    /** A text that declares so many of one sort: n0, n1 .. */
    private static String declared(String statement, int many) {
        StringBuilder text = new StringBuilder();
        for (int i = 0; i < many; i++) {
            text.append(named(statement, "n" + i));
        }
        return text.toString();
    }

    private static void checkHowManyOfEach() {
        CHECK.sentence("There are at most 12 types, 4 attributes, 4 classes, 3 bools .. kind 4: .. (at its name)");
        int[] limits = {4, 4, 12, 3};
        int[] counted = {1, -1, 0, 2};
        for (int sort = 0; sort < DECLARING.length; sort++) {
            String statement = DECLARING[sort];
            int limit = limits[sort];
            for (int many = 1; many <= limit; many++) {
                TypeGuard guard = CHECK.sound(declared(statement, many));
                if (counted[sort] >= 0) {
                    CHECK.same("count of " + statement, many, guard.count(counted[sort]));
                }
            }
            String full = declared(statement, limit);
            CHECK.faulty(4, full + named(statement, "^m"));
            CHECK.faulty(4, full + named(statement, "  ^m "));
            CHECK.faulty(4, full + named(statement, "^m @"));
            CHECK.faulty(3, full + named(statement, "^n0"));
            CHECK.faulty(3, full + named(statement, "^n" + (limit - 1)));
            CHECK.faulty(3, full + named(statement, "^if"));
            CHECK.faulty(1, full + named(statement, "^abcdefghij"));
            CHECK.faulty(1, full + statement.substring(0, statement.indexOf(' ')) + " ^;");
            CHECK.faulty(1, full + statement.substring(0, statement.indexOf(' ')) + "^");
        }
    }

    private static void checkAllFullAtOnce() {
        CHECK.sentence("There are at most 12 types, 4 attributes, 4 classes, 3 bools");
        String full = "class c0{x};class c1{x};class c2{x};class c3{x};attribute a0;attribute a1;attribute a2;attribute a3;"
                + "bool b0 true;bool b1 true;bool b2 false;";
        StringBuilder types = new StringBuilder();
        for (int i = 0; i < 12; i++) {
            types.append("type t").append(i).append(i == 11 ? ",a3;" : ";");
        }
        TypeGuard guard = CHECK.sound(full + types + "if b2{}else{allow t11 a3:c3 x;};", 12, 4, 3, 1, 1, 0);
        CHECK.same("the last of each", 1, Check.vector(guard, 0, 11, 11, 3));
        CHECK.same("the last bool", false, Check.flip(guard, 2, true));
        CHECK.same("flipped", 0, Check.vector(guard, 0, 11, 11, 3));
        CHECK.faulty(4, full + types + "type ^t;");
        CHECK.faulty(4, full + types + "class ^c{x};");
        CHECK.faulty(4, full + types + "attribute ^a;");
        CHECK.faulty(4, full + types + "bool ^b true;");
    }

    private static void checkThatEachTextCountsAnew() {
        CHECK.sentence("A text without fault is LOADED: it is the policy in force");
        for (int sort = 0; sort < DECLARING.length; sort++) {
            int limit = new int[] {4, 4, 12, 3}[sort];
            String full = declared(DECLARING[sort], limit);
            TypeGuard guard = new TypeGuard();
            CHECK.same("full", 1, Check.load(guard, full));
            CHECK.same("full again", 2, Check.load(guard, full));
            CHECK.same("one more", Check.ILLEGAL, Check.load(guard, full + named(DECLARING[sort], "m")));
            CHECK.same("kind", 4, guard.fault(0));
            CHECK.same("full behind a fault", 3, Check.load(guard, full));
            CHECK.same("fewer", 4, Check.load(guard, DECLARING[sort]));
            CHECK.same("one more than fewer", 5, Check.load(guard, declared(DECLARING[sort], 2)));
        }
        TypeGuard guard = Check.loaded("class f{" + listed(8) + "};");
        CHECK.same("eight permissions again", 2, Check.load(guard, "class f{" + listed(8) + "};"));
        CHECK.same("a name of the policy before is free", 3, Check.load(guard, "type f;class g{p0};"));
        CHECK.same("a name of the policy before is not declared", Check.ILLEGAL, Check.load(guard, "allow f f:g p0;"));
        CHECK.same("kind", 2, guard.fault(0));
        CHECK.same("place", 6, guard.fault(1));
    }
}
