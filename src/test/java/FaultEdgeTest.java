/** The edges of promise 4 (fault): places, which fault is told when there are several, and when there is none. */
public final class FaultEdgeTest {
    private static final int[] OTHER = {-1, 2, 3, -2, 256, Integer.MIN_VALUE, Integer.MAX_VALUE};
    /** A faulty statement of each kind 1 to 4, the wrong token marked; none spoils what follows it. */
    private static final String[] FAULTS = {"type b ^:", "attribute g;type h,^e;", "type ^a;",
        "bool r true;bool s true;bool ^t true;"};
    private static final String HEAD = "class f{x};attribute d;type a,d;bool q true;";
    private static final Check CHECK = new Check();

    public static void main(String[] args) {
        checkFirstAndLastPlace();
        checkTextThatEndsTooEarly();
        checkFirstWrongToken();
        checkSeveralKindsOfOneToken();
        checkLatestLoad();
        checkThatOtherCallsTellNothing();
        checkOtherWhat();
        CHECK.end();
    }

    private static void checkFirstAndLastPlace() {
        CHECK.sentence("A text is FAULTY: at the place of the first token that is wrong");
        CHECK.faulty(1, "^;");
        CHECK.faulty(1, "^@");
        CHECK.faulty(1, "^abcdefghij");
        CHECK.faulty(1, "^zz");
        CHECK.faulty(1, " ".repeat(479) + "^@");
        CHECK.faulty(1, " ".repeat(470) + "^abcdefghij");
        CHECK.faulty(1, "type a" + " ".repeat(473) + "^}");
        CHECK.faulty(2, " ".repeat(473) + "allow ^a");
        CHECK.faulty(3, " ".repeat(467) + "type a;type ^a");
        CHECK.faulty(6, "class f{x};type a;" + " ".repeat(432) + "^never a a:f x;allow a a:f x;");
        CHECK.faulty(5, "class f{x};type a;type b;" + " ".repeat(428) + "move a a:f a;^move a a:f b;");
    }

    private static void checkTextThatEndsTooEarly() {
        CHECK.sentence("at the text's length, if it ends too early");
        String[] statements = {"class g { x y } ;", "attribute e ;", "type b , d ;", "bool r true ;", "bool r false ;",
            "allow { a - d } self : { f } { x } ;", "audit ~ a ~ d : f ~ x ;", "hush * * : f * ;", "never a a : f x ;",
            "move a a : f a ;", "if q { allow a a : f x ; } ;", "if q { } else { hush a a : f x ; } ;"};
        for (String statement : statements) {
            String[] tokens = statement.split(" ");
            StringBuilder text = new StringBuilder(HEAD);
            for (int i = 0; i < tokens.length - 1; i++) {
                text.append(i == 0 ? "" : " ").append(tokens[i]);
                CHECK.faulty(1, text.toString(), text.length());
                CHECK.faulty(1, text + " ", text.length() + 1);
                CHECK.faulty(1, text + " ".repeat(480 - text.length()), 480);
            }
            CHECK.sound(text + ";");
        }
    }

    private static void checkFirstWrongToken() {
        CHECK.sentence("at the place of the first token that is wrong");
        for (int first = 0; first < FAULTS.length; first++) {
            CHECK.faulty(first + 1, HEAD + FAULTS[first]);
            for (String second : FAULTS) {
                CHECK.faulty(first + 1, HEAD + FAULTS[first] + " " + second.replace("^", ""));
            }
            CHECK.faulty(first + 1, HEAD + FAULTS[first] + " abcdefghij @ type");
            CHECK.faulty(first + 1, HEAD + "never a a:f x;allow a a:f x;" + FAULTS[first]);
        }
        CHECK.faulty(2, HEAD + "allow ^e e:g y @");
        CHECK.faulty(2, HEAD + "allow a ^e:g y @");
        CHECK.faulty(2, HEAD + "allow a a:^g y @");
        CHECK.faulty(2, HEAD + "allow a a:f ^y @");
        CHECK.faulty(1, HEAD + "allow a a:f x ^@");
    }

    private static void checkSeveralKindsOfOneToken() {
        CHECK.sentence("(Kinds 2 to 4 are looked for token by token, in this order.)");
        CHECK.faulty(3, "bool a true;bool b true;bool c true;bool ^a true;");
        CHECK.faulty(3, "bool a true;bool b true;bool c true;bool ^bool true;");
        CHECK.faulty(4, "bool a true;bool b true;bool c true;bool ^boo true;");
        CHECK.faulty(3, "class f{a b c d e f g h ^h};");
        CHECK.faulty(3, "class f{a b c d e f g h ^class};");
        CHECK.faulty(4, "class f{a b c d e f g h ^clas};");
        CHECK.faulty(1, "class f{a b c d e f g h ^classclass};");
        CHECK.faulty(1, "bool a true;bool b true;bool c true;bool ^9;");
    }

    private static void checkLatestLoad() {
        CHECK.sentence("Of the latest load(): the kind of its fault (what 0; 0: none), its place (1; NONE without a fault)");
        TypeGuard guard = new TypeGuard();
        due(guard, 0, -1);
        CHECK.same("an empty text", 1, Check.load(guard, ""));
        due(guard, 0, -1);
        CHECK.same("a fault", Check.ILLEGAL, Check.load(guard, "type"));
        due(guard, 1, 4);
        CHECK.same("a fault of another kind", Check.ILLEGAL, Check.load(guard, "type self;"));
        due(guard, 3, 5);
        String broken = "class f{x};type a;never a a:f x;allow a a:f x;";
        CHECK.same("a fault of the last kind", Check.ILLEGAL, Check.load(guard, broken));
        due(guard, 6, 18);
        CHECK.same("the empty text behind it", 2, Check.outcome(guard::load));
        due(guard, 0, -1);
        CHECK.same("a fault at 0", Check.ILLEGAL, Check.load(guard, "}"));
        due(guard, 1, 0);
        CHECK.same("no fault", 3, Check.load(guard, "type a;"));
        due(guard, 0, -1);
    }

    private static void due(TypeGuard guard, int kind, int place) {
        CHECK.same("fault(0)", kind, guard.fault(0));
        CHECK.same("fault(1)", place, guard.fault(1));
    }

    private static void checkThatOtherCallsTellNothing() {
        CHECK.sentence("Of the latest load()");
        TypeGuard guard = Check.loaded("class f{x};type a;bool q true;");
        for (int kind = 0; kind < 2; kind++) {
            if (kind == 1) {
                // Behind the @ that is typed below.
                Check.load(guard, "type a;");
            }
            guard.type(Check.packed("@"), 1);
            guard.type(Check.packed("\n"), 1);
            guard.flip(0, kind == 1);
            Check.flip(guard, 9, true);
            Check.enter(guard, 0, 9);
            Check.ask(guard, 0, 0, 0);
            Check.run(guard, 5, 9);
            Check.make(guard, 0, 0, 0);
            due(guard, kind, kind == 0 ? -1 : 0);
            CHECK.same("the text goes on", 1, guard.count(5));
        }
    }

    private static void checkOtherWhat() {
        CHECK.sentence("NONE for another what");
        for (String text : new String[] {"", "type a;", "type", "@", "type self;"}) {
            TypeGuard guard = new TypeGuard();
            Check.load(guard, text);
            for (int what : OTHER) {
                CHECK.same("fault(" + what + ") behind '" + text + "'", -1, guard.fault(what));
            }
        }
    }
}
