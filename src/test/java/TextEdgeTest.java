/** The edges of the text and its tokens, and of promise 2 (type). */
public final class TextEdgeTest {
    private static final String SIGNS = "{}:;,~*-";
    private static final Check CHECK = new Check();

    public static void main(String[] args) {
        checkFullText();
        checkMoreThanFull();
        checkTextThatStays();
        checkBytes();
        checkBytesAbove();
        checkHowManyBytes();
        checkOrder();
        checkBlanks();
        checkNameLengths();
        checkLettersOfNames();
        checkNamesAlike();
        checkSigns();
        CHECK.end();
    }

    private static TypeGuard filledTo(int length) {
        TypeGuard guard = new TypeGuard();
        Check.write(guard, " ".repeat(length));
        return guard;
    }

    private static void checkFullText() {
        CHECK.sentence("THE TEXT has at most 480 characters");
        for (int n = 1; n <= 8; n++) {
            TypeGuard guard = filledTo(480 - n);
            CHECK.same(n + " more, to 480", true, guard.type(Check.packed(" ".repeat(n)), n));
            CHECK.same("characters", 480, guard.count(5));
        }
        CHECK.sound("type a" + " ".repeat(473) + ";", 1, 0, 0, 0, 1, 0);
        CHECK.sound(" ".repeat(473) + "type a;", 1);
        CHECK.sound(" ".repeat(480), 0, 0, 0, 0, 1, 0);
        CHECK.sound("", 0, 0, 0, 0, 1, 0);
        CHECK.faulty(1, ";" + " ".repeat(479), 0);
        CHECK.faulty(1, " ".repeat(479) + ";", 479);
        CHECK.faulty(1, " ".repeat(476) + "type", 480);
    }

    private static void checkMoreThanFull() {
        CHECK.sentence("false if .. there would be more than 480");
        for (int n = 1; n <= 8; n++) {
            TypeGuard guard = filledTo(480 - n + 1);
            CHECK.same(n + " more, to 481", false, guard.type(Check.packed(" ".repeat(n)), n));
            CHECK.same("characters", 480 - n + 1, guard.count(5));
            TypeGuard full = filledTo(480);
            CHECK.same(n + " more than 480", false, full.type(Check.packed(" ".repeat(n)), n));
            CHECK.same("characters", 480, full.count(5));
        }
    }

    private static void checkTextThatStays() {
        CHECK.sentence("Appends .. : true; false if ..");
        TypeGuard guard = new TypeGuard();
        Check.write(guard, " ".repeat(472) + "type a");
        CHECK.same("too many", false, guard.type(Check.packed(";;;"), 3));
        CHECK.same("a wrong byte behind right ones", false, guard.type(Check.packed(";\n"), 2));
        CHECK.same("a wrong byte ahead of right ones", false, guard.type(Check.packed("\n;"), 2));
        CHECK.same("no byte", false, guard.type(Check.packed(";"), 0));
        CHECK.same("nine bytes", false, guard.type(Check.packed(";;;;;;;;"), 9));
        CHECK.same("characters", 478, guard.count(5));
        CHECK.same("the end", true, guard.type(Check.packed("; "), 2));
        CHECK.same("load", 1, Check.outcome(guard::load));
        CHECK.same("types", 1, guard.count(0));
        CHECK.same("480 again behind a load", true, filledAgain(guard));
    }

    private static boolean filledAgain(TypeGuard guard) {
        Check.write(guard, " ".repeat(480));
        return guard.count(5) == 480 && !guard.type(32, 1);
    }

    private static void checkBytes() {
        CHECK.sentence("false if .. a byte is not 32 .. 126");
        for (int letter = 0; letter < 256; letter++) {
            boolean taken = letter >= 32 && letter <= 126;
            for (int n = 1; n <= 8; n++) {
                for (int at = 0; at < n; at++) {
                    TypeGuard guard = new TypeGuard();
                    long others = Check.packed("aaaaaaaa") & ~(255L << 8 * at);
                    CHECK.same("byte " + letter + " at " + at + " of " + n, taken,
                            guard.type(others | (long) letter << 8 * at, n));
                    CHECK.same("characters", taken ? n : 0, guard.count(5));
                }
            }
        }
    }

    private static void checkBytesAbove() {
        CHECK.sentence("the n lowest bytes of word");
        for (int n = 1; n < 8; n++) {
            for (int letter : new int[] {0, 31, 127, 128, 255}) {
                TypeGuard guard = new TypeGuard();
                long word = Check.packed("type a; ".substring(0, n));
                for (int at = n; at < 8; at++) {
                    word |= (long) letter << 8 * at;
                }
                CHECK.same(letter + " above " + n + " bytes", true, guard.type(word, n));
                CHECK.same("characters", n, guard.count(5));
                Check.write(guard, "type a; ".substring(n));
                CHECK.same("load", 1, Check.outcome(guard::load));
            }
        }
    }

    private static void checkHowManyBytes() {
        CHECK.sentence("false if n is not 1 .. 8");
        int[] wrong = {0, -1, 9, -8, 10, 16, 257, 264, -255, 1 << 16 | 1, Integer.MIN_VALUE, Integer.MIN_VALUE + 1,
            Integer.MAX_VALUE};
        for (int n : wrong) {
            TypeGuard guard = new TypeGuard();
            CHECK.same("type(.., " + n + ")", false, guard.type(Check.packed("        "), n));
            CHECK.same("type(0, " + n + ")", false, guard.type(0, n));
            CHECK.same("characters", 0, guard.count(5));
            TypeGuard full = filledTo(480);
            CHECK.same("type(.., " + n + ") when full", false, full.type(Check.packed("        "), n));
            CHECK.same("characters", 480, full.count(5));
        }
        for (int n = 1; n <= 8; n++) {
            CHECK.same("type(.., " + n + ")", true, new TypeGuard().type(Check.packed("        "), n));
        }
    }

    private static void checkOrder() {
        CHECK.sentence("the highest of them first");
        String text = "class f{x};type a;allow a a:f x;";
        for (int n = 1; n <= 8; n++) {
            TypeGuard guard = new TypeGuard();
            for (int from = 0; from < text.length(); from += n) {
                String piece = text.substring(from, Math.min(from + n, text.length()));
                CHECK.same(piece, true, guard.type(Check.packed(piece), piece.length()));
            }
            CHECK.same("characters", text.length(), guard.count(5));
            CHECK.same("load in pieces of " + n, 1, Check.outcome(guard::load));
            CHECK.same("why", 18, Check.why(guard, 0, 0, 0, 0));
        }
    }

    private static void checkBlanks() {
        CHECK.sentence("TOKENS, with any blanks (32) between them");
        String[] tokens = ("class f { x y } ; attribute d ; type a , d ; bool q true ; allow { a - d } ~ d : { f } ~ { x } ;"
                + " move * self : f a ; if q { } else { } ;").split(" ");
        for (int blanks = 1; blanks <= 6; blanks++) {
            String gap = " ".repeat(blanks);
            CHECK.sound(gap + String.join(gap, tokens) + gap, 1, 1, 1, 2);
        }
        CHECK.sound("class f{x y};attribute d;type a,d;bool q true;allow{a-d}~d:{f}~{x};move*self:f a;if q{}else{};",
                1, 1, 1, 2);
        CHECK.faulty(1, "^ty pe a;");
        CHECK.faulty(1, "type a ^b;");
        CHECK.faulty(1, "^typea;");
        CHECK.faulty(1, "bool q ^tru e;");
        CHECK.faulty(1, "bool qtrue^;");
        CHECK.faulty(1, "   ^;");
    }

    private static void checkNameLengths() {
        CHECK.sentence("a NAME: .. at most 9 long; .. kind 1: .. a name of more than 9");
        for (int length = 1; length <= 24; length++) {
            String name = "abcdefghijklmnopqrstuvwxyz".substring(0, length);
            String[] texts = {"type ^" + name + ";", "attribute ^" + name + ";", "class ^" + name + "{x};",
                "bool ^" + name + " true;", "class f{^" + name + "};", "class f{x ^" + name + "};"};
            for (String text : texts) {
                if (length <= 9) {
                    CHECK.sound(text.replace("^", ""));
                } else {
                    CHECK.faulty(1, text);
                }
            }
        }
        String nine = "z_0123456";
        CHECK.sound("class " + nine + "{" + nine + "};type t;allow t t:" + nine + " " + nine + ";", 1, 1, 0, 1);
        CHECK.sound("bool " + nine + " true;if " + nine + "{};attribute a;type t,a;", 1, 0, 1, 0);
        CHECK.sound("class f{x};type " + nine + ";move " + nine + " " + nine + ":f " + nine + ";", 1, 1, 0, 1);
        CHECK.faulty(1, "type " + nine + "^");
        CHECK.faulty(1, "type ^" + nine + "7");
        CHECK.faulty(1, "type " + nine + ";class f{x};allow * ^" + nine + "7:f x;");
        CHECK.faulty(1, "^typetypety pe;");
        CHECK.faulty(1, "type ^" + "a".repeat(475));
        CHECK.faulty(1, "^" + "a".repeat(480));
    }

    private static void checkLettersOfNames() {
        CHECK.sentence("a longest row of a .. z, 0 .. 9 and _ that begins with a letter");
        for (char letter = 33; letter <= 126; letter++) {
            boolean begins = letter >= 'a' && letter <= 'z';
            boolean goesOn = begins || letter >= '0' && letter <= '9' || letter == '_';
            if (begins) {
                CHECK.sound("type " + letter + ";", 1);
            } else {
                CHECK.faulty(1, "type " + letter + ";", 5);
            }
            if (goesOn) {
                CHECK.sound("type a" + letter + ";", 1);
                CHECK.sound("type aaaaaaaa" + letter + ";", 1);
                CHECK.faulty(1, "type aaaaaaaaa" + letter + ";", 5);
            } else {
                // ; and , may stand behind the name, but what follows them may not.
                CHECK.faulty(1, "type a" + letter + ";", letter == ';' || letter == ',' ? 7 : 6);
            }
        }
    }

    private static void checkNamesAlike() {
        CHECK.sentence("A name is declared by its statement, once");
        CHECK.sound("type abcdefghi;type abcdefghj;type bbcdefghi;type abcdefgh;type bcdefghi;", 5);
        CHECK.sound("type a;type aa;type aaa;type a0;type a_;type a00;type zzzzzzzzz;type z;", 8);
        CHECK.sound("class f{abcdefghi abcdefghj bbcdefghi abcdefgh bcdefghi};", 0, 1);
        CHECK.faulty(3, "type abcdefghi;type abcdefghj;type ^abcdefghi;");
        CHECK.faulty(2, "attribute abcdefghi;type a,abcdefghi,^abcdefghj;");
        CHECK.faulty(2, "attribute abcdefghi;type a,^abcdefgh;");
    }

    private static void checkSigns() {
        CHECK.sentence("a SIGN: one of { } : ; , ~ * -");
        for (char letter = 33; letter <= 126; letter++) {
            if (letter >= 'a' && letter <= 'z') {
                continue;
            }
            CHECK.faulty(1, "type a;" + letter, 7);
            CHECK.faulty(1, "type a; " + letter + "type b;", 8);
            if (SIGNS.indexOf(letter) < 0) {
                CHECK.faulty(1, "class f{x};type a;allow a a:f " + letter + " x;", 30);
                CHECK.faulty(1, "class f{x " + letter + " y};", 10);
            }
        }
    }
}
