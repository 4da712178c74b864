/** Promise 4: fault, and what makes a text FAULTY. In a text here ^ marks the place that is due. */
public final class FaultTest {
    private static final String HEAD = "class f{x y};class g{y z};attribute d;type a,d;type b;bool q true;";

    private static final Check CHECK = new Check();

    public static void main(String[] args) {
        checkTokens();
        checkStatements();
        checkEnds();
        checkUndeclaredNames();
        checkNamesDeclaredTwice();
        checkLimits();
        checkMoves();
        checkNevers();
        checkFirstOfBoth();
        checkAnswers();
        CHECK.end();
    }

    private static void due(int kind, String marked) {
        CHECK.faulty(kind, marked);
    }

    private static void dueBehindHead(int kind, String marked) {
        due(kind, HEAD + marked);
    }

    private static void checkTokens() {
        due(1, "type ^abcdefghij;");
        due(1, "type ^abcdefghijklmnopqrstuvwxyz;");
        due(1, "^battribute a;");
        due(1, "^attributes a;");
        due(1, "type abcdefghi;class f{x};allow ^abcdefghij *:f x;");
        due(1, "bool abcdefghi true;if ^abcdefghij{};");
        due(1, "class f{abcdefghi};type a;allow a a:f ^abcdefghij;");
        due(1, "^aaaaaaaaaaaaaaaaaatype a;");
        due(1, "class f{^abcdefghij};");
        due(1, "bool q ^trueeeeeee;");
        due(1, "type a^@;");
        due(1, "type a^A;");
        due(1, "type a^.;");
        due(1, "type ^A;");
        due(1, "type ^9a;");
        due(1, "type ^_a;");
        due(1, "^9");
        due(1, "^Type a;");
        due(1, "type a;^!");
        for (char sign : "!\"#$%&'()+./<=>?@[\\]_`|09AZ".toCharArray()) {
            due(1, "type a;  ^" + sign + " type b;");
        }
        due(1, "type a ^b;");
    }

    private static void checkStatements() {
        for (String start : new String[] {"a", "else", "true", "false", "self", "{", "}", ":", ";", ",", "~", "*", "-"}) {
            dueBehindHead(1, "^" + start + " a;");
        }
        due(1, "class ^{x};");
        due(1, "class f^;");
        due(1, "class f{^};");
        due(1, "class f{x^,y};");
        due(1, "class f{x^;");
        due(1, "class f{x}^type a;");
        due(1, "attribute ^;");
        due(1, "attribute d^,e;");
        due(1, "type ^,d;");
        due(1, "attribute d;type a ^d;");
        due(1, "type a,^;");
        due(1, "type a^:");
        due(1, "bool q^;");
        due(1, "bool q ^maybe;");
        due(1, "bool q true ^true;");
        due(1, "bool ^;");
        dueBehindHead(1, "allow ^: a:f x;");
        dueBehindHead(1, "allow a ^:f x;");
        dueBehindHead(1, "allow a a ^f x;");
        dueBehindHead(1, "allow a a:^;");
        dueBehindHead(1, "allow a a:f ^;");
        dueBehindHead(1, "allow a a:f x ^x;");
        dueBehindHead(1, "allow a a:f x^}");
        dueBehindHead(1, "allow ~^~a a:f x;");
        dueBehindHead(1, "allow ^-a a:f x;");
        dueBehindHead(1, "allow {^} a:f x;");
        dueBehindHead(1, "allow {a -^} a:f x;");
        dueBehindHead(1, "allow {a -^-b} a:f x;");
        dueBehindHead(1, "allow {^*} a:f x;");
        dueBehindHead(1, "allow {a ^*} a:f x;");
        dueBehindHead(1, "allow {a^,b} a:f x;");
        dueBehindHead(1, "allow {a ^~b} a:f x;");
        dueBehindHead(1, "allow {a ^{b}} a:f x;");
        dueBehindHead(1, "allow * {^} :f x;");
        dueBehindHead(1, "allow a a:^* x;");
        dueBehindHead(1, "allow a a:^~f x;");
        dueBehindHead(1, "allow a a:{^} x;");
        dueBehindHead(1, "allow a a:{f ^-g} y;");
        dueBehindHead(1, "allow a a:f {^};");
        dueBehindHead(1, "allow a a:f {^*};");
        dueBehindHead(1, "allow a a:f {x ^-y};");
        dueBehindHead(1, "allow a a:f ~^~x;");
        dueBehindHead(1, "move a a:^{f} a;");
        dueBehindHead(1, "move a a:f ^*;");
        dueBehindHead(1, "move a a:f ^{a};");
        dueBehindHead(1, "move a a:f ^~a;");
        dueBehindHead(1, "move a a:f a ^a;");
        dueBehindHead(1, "if ^{};");
        dueBehindHead(1, "if q^;");
        dueBehindHead(1, "if q{^;};");
        dueBehindHead(1, "if q{^never a a:f x;};");
        dueBehindHead(1, "if q{^move a a:f a;};");
        dueBehindHead(1, "if q{}else{^never a a:f x;};");
        dueBehindHead(1, "if q{}else{^move a a:f a;};");
        dueBehindHead(1, "if q{^if q{};};");
        dueBehindHead(1, "if q{^type c;};");
        dueBehindHead(1, "if q{^class h{x};};");
        dueBehindHead(1, "if q{^bool r true;};");
        dueBehindHead(1, "if q{^attribute e;};");
        dueBehindHead(1, "if q{^else{}};");
        dueBehindHead(1, "if q{^a};");
        dueBehindHead(1, "if q{}^type c;");
        dueBehindHead(1, "if q{}else^;");
        dueBehindHead(1, "if q{}else{}^else{};");
        dueBehindHead(1, "if q{};^else{};");
        dueBehindHead(1, "if q{allow a a:f x;}else{allow a a:f x^}");
        dueBehindHead(1, "if q{}else{};^}");
    }

    private static void checkEnds() {
        String[] texts = {
            "class f{x y};", "attribute d;", "type a;", "bool q true;", "bool q false;",
        };
        for (String text : texts) {
            for (int end = 1; end < text.length(); end++) {
                if (text.charAt(end) < 'a' || text.charAt(end - 1) < 'a') {
                    due(1, text.substring(0, end) + "^");
                    due(1, text.substring(0, end) + "   ^");
                }
            }
        }
        dueEverywhereFrom(HEAD, "allow {a - b} {d}:{f g} {y};");
        dueEverywhereFrom(HEAD, "hush ~a self:f ~x;");
        dueEverywhereFrom(HEAD, "move * ~*:g b;");
        dueEverywhereFrom(HEAD, "if q{audit a a:f x;hush a b:f *;}else{allow a b:f x;};");
        due(1, "type a;class f{x};allow a a:f x^");
    }

    /** Cuts a statement behind each of its tokens but the last. */
    private static void dueEverywhereFrom(String head, String statement) {
        for (int end = 1; end < statement.length(); end++) {
            boolean inName = Character.isLetter(statement.charAt(end)) && Character.isLetter(statement.charAt(end - 1));
            if (!inName) {
                due(1, head + statement.substring(0, end) + "^");
            }
        }
    }

    private static void checkUndeclaredNames() {
        due(2, "allow ^a a:f x;");
        due(2, "type a,^b;");
        due(2, "type a,^a;");
        due(2, "type a;type b,^a;");
        due(2, "attribute d;class f{x};type a,d,^f;");
        due(2, "type a,^d;attribute d;");
        due(2, "type a;class f{x};allow a a:f x;allow ^b a:f x;type b;");
        for (String name : new String[] {"c", "f", "q", "x", "self", "if", "true", "class"}) {
            dueBehindHead(2, "allow ^" + name + " a:f x;");
            dueBehindHead(2, "allow ~^" + name + " a:f x;");
            dueBehindHead(2, "allow {a ^" + name + "} a:f x;");
            dueBehindHead(2, "allow {a -^" + name + "} a:f x;");
            dueBehindHead(2, "move ^" + name + " a:f a;");
            dueBehindHead(2, "allow a {^" + name + "} :f x;");
            dueBehindHead(2, "allow a ~^" + name + " :f x;");
        }
        dueBehindHead(2, "allow a ^c:f x;");
        for (String name : new String[] {"h", "a", "d", "q", "x", "self"}) {
            dueBehindHead(2, "allow a a:^" + name + " x;");
            dueBehindHead(2, "allow a a:{f ^" + name + "} y;");
            dueBehindHead(2, "move a a:^" + name + " a;");
        }
        for (String name : new String[] {"c", "d", "f", "q", "x", "self", "else"}) {
            dueBehindHead(2, "move a a:f ^" + name + ";");
        }
        for (String name : new String[] {"z", "a", "f", "w", "self"}) {
            dueBehindHead(2, "allow a a:f ^" + name + ";");
            dueBehindHead(2, "allow a a:f ~^" + name + ";");
            dueBehindHead(2, "allow a a:f {x ^" + name + "};");
        }
        dueBehindHead(2, "allow a a:{f g} ^x;");
        dueBehindHead(2, "allow a a:{f g} {y ^z};");
        dueBehindHead(2, "never a a:{g f} ~^z;");
        for (String name : new String[] {"r", "a", "d", "f", "x", "if", "true"}) {
            dueBehindHead(2, "if ^" + name + "{};");
        }
        due(2, "if ^q{};bool q true;");
        dueBehindHead(2, "allow ^c @;type a;");
    }

    private static void checkNamesDeclaredTwice() {
        String[] words = {"class", "attribute", "type", "bool", "allow", "audit", "hush", "never", "move", "if",
            "else", "true", "false", "self"};
        for (String name : words) {
            due(3, "class ^" + name + "{x};");
            due(3, "attribute ^" + name + ";");
            due(3, "type ^" + name + ";");
            due(3, "bool ^" + name + " true;");
            due(3, "class f{x ^" + name + "};");
            due(3, "class f{^" + name + "};");
        }
        for (String name : new String[] {"f", "d", "a", "q"}) {
            dueBehindHead(3, "class ^" + name + "{x};");
            dueBehindHead(3, "attribute ^" + name + ";");
            dueBehindHead(3, "type ^" + name + ";");
            dueBehindHead(3, "bool ^" + name + " true;");
        }
        due(3, "class f{x y ^x};");
        due(3, "class f{x ^x};");
    }

    private static void checkLimits() {
        due(4, "class f{a b c d e f g h ^i};");
        due(3, "class f{a b c d e f g h ^a};");
        due(3, "class f{a b c d e f g h ^if};");
        due(1, "class f{a b c d e f g h ^abcdefghij};");
        due(4, "class a{x};class b{x};class c{x};class d{x};class ^e{x};");
        due(3, "class a{x};class b{x};class c{x};class d{x};class ^a{x};");
        due(4, "attribute a;attribute b;attribute c;attribute d;attribute ^e;");
        due(3, "attribute a;attribute b;attribute c;attribute d;attribute ^self;");
        due(4, "bool a true;bool b true;bool c true;bool ^d true;");
        due(3, "bool a true;bool b true;bool c true;bool ^b true;");
        StringBuilder types = new StringBuilder();
        for (char name = 'a'; name < 'a' + 12; name++) {
            types.append("type ").append(name).append(";");
        }
        due(4, types + "type ^m;");
        due(4, types + "type  ^m @");
        due(3, types + "type ^l;");
        StringBuilder rules = new StringBuilder("type a;class f{x};bool q true;");
        for (int i = 0; i < 24; i++) {
            rules.append(i % 2 == 0 ? "hush a a:f x;" : "move a a:f a;");
        }
        for (String word : new String[] {"allow", "audit", "hush", "never", "move"}) {
            due(4, rules + "^" + word + " @;");
        }
        due(4, rules + "if q{}else{^hush b;};");
        due(1, rules + "if q{^never a a:f x;};");
        due(1, rules + "if q{^move a a:f x;};");
    }

    private static void checkMoves() {
        due(5, "type a;class f{x};type b;move a a:f b;^move * a:f a;");
        due(5, "type a;class f{x};type b;move a self:f b;^move {a b} a:f a;");
        due(5, "type a;class f{x};type b;move a a:f b;^move * self:f a;");
        due(5, "type a;class f{x};type b;move * self:f b;^move * self:f a;");
        due(5, "class f{x};attribute d;type b;type c;move d *:f b;move c *:f c;type a,d;^move a a:f c;");
        due(5, "class f{x};type a;type b;move a a:f a;move b b:f b;move a a:f a;^move ~b ~b:f b;move a a:f b;");
    }

    private static void checkNevers() {
        String head = "type a;class f{x y};type b;bool q true;class g{y};";
        due(6, head + "^never a self:f x;if q{}else{allow a a:f {x y};};");
        due(6, head + "allow a a:f x;^never a self:f x;");
        due(6, head + "if q{allow * self:{f g} *;};^never b *:g y;");
        due(6, head + "^never * self:f *;allow {a -b} a:f y;");
        due(6, head + "never a b:f x;never b a:f y;^never a a:f y;never a a:f *;allow a a:f y;");
        due(6, "class f{x};attribute d;type a;^never a d:f x;type b,d;allow a b:f x;");
    }

    private static void checkFirstOfBoth() {
        String head = "type a;class f{x};type b;";
        due(5, head + "move a a:f a;^move a a:f b;never a a:f x;allow a a:f x;");
        due(6, head + "move a a:f a;^never a a:f x;move a a:f b;allow a a:f x;");
        due(6, head + "^never a a:f x;move a a:f a;move a a:f b;allow a a:f x;");
        due(1, head + "never a a:f x;allow a a:f x;move a a:f a;move a a:f b^");
        due(2, head + "never a a:f x;allow a a:f x;type c,^d;");
    }

    private static void checkAnswers() {
        TypeGuard guard = new TypeGuard();
        Check.load(guard, "type a");
        CHECK.same("kind", 1, guard.fault(0));
        Check.write(guard, "type b;");
        CHECK.same("kind of the latest load, not of the text", 1, guard.fault(0));
        CHECK.same("place of the latest load", 6, guard.fault(1));
        for (int what : new int[] {-1, 2, 3, Integer.MAX_VALUE, Integer.MIN_VALUE}) {
            CHECK.same("fault(" + what + ")", -1, guard.fault(what));
        }
        CHECK.same("load", 1, Check.outcome(guard::load));
        CHECK.same("kind", 0, guard.fault(0));
        CHECK.same("place", -1, guard.fault(1));
    }
}
