/** Every text that is one token away from a sound one, read by the program and by the model side by side. */
public final class EveryTokenTest {
    private static final String HEAD = "class f { x y } ; class g { y z } ; attribute d ; type a , d ; type b ; bool q true ; ";
    /** Together these have every form of a statement, a set, and a list of classes or of permissions. */
    private static final String[] SOUND = {
        HEAD + "type c , d , d ; attribute e ; bool r false ;",
        HEAD + "allow a b : f x ; audit ~ d self : { f g } ~ y ; hush { a - d b } * : g * ;",
        HEAD + "never * ~ { a } : f { x y } ; allow * a : { g } ~ { y z } ; move a { - a d } : g b ;",
        HEAD + "if q { allow d b : g z ; hush a self : f ~ * ; } else { audit b ~ * : f y ; } ; if q { } ;",
        HEAD + "move ~ b * : f b ; move b self : f a ; if q { } else { allow a a : f x ; } ; never b d : f x ;",
        HEAD + "move a a : f b ; move a b : f a ; move b a : f a ; move a a : g a ;",
        HEAD + "never a b : f x ; allow a a : f x ; never b a : f x ; never a a : { f g } y ;",
        "class f { a b c d e f g h } ; class g { x } ; class h { x } ; class i { x } ; bool j true ; bool k true ;"
                + " bool l true ; type m ; type n ; type o ; type p ; type q ; type r ; type s ; type t ; type u ; type v ;"
                + " type w ; type x ; attribute m0 ; attribute m1 ; attribute m2 ; attribute m3 ;",
        "class f { x } ; type a ; " + "hush * * : f x ; ".repeat(24),
    };
    private static final String[] TOKENS = {"{", "}", ":", ";", ",", "~", "*", "-", "class", "attribute", "type", "bool",
        "allow", "audit", "hush", "never", "move", "if", "else", "true", "false", "self", "a", "b", "d", "f", "g", "q", "x",
        "y", "z", "u", "abcdefghi", "abcdefghij", "@", "9"};

    private final Check check = new Check();
    private final int[] kinds = new int[7];

    public static void main(String[] args) {
        EveryTokenTest test = new EveryTokenTest();
        for (String text : SOUND) {
            test.check.sound(text);
            test.compareAround(text.split(" "));
        }
        for (int kind = 0; kind < test.kinds.length; kind++) {
            test.check.that("texts of kind " + kind + " are many: " + test.kinds[kind], test.kinds[kind] >= 20);
        }
        test.check.end();
    }

    private void compareAround(String[] tokens) {
        for (int at = 0; at <= tokens.length; at++) {
            String front = joined(tokens, 0, at);
            String back = joined(tokens, at, tokens.length);
            String behindNext = joined(tokens, Math.min(at + 1, tokens.length), tokens.length);
            compare(front);
            compare(front + behindNext);
            for (String token : TOKENS) {
                compare(front + token + " " + back);
                compare(front + token + " " + behindNext);
            }
        }
    }

    private static String joined(String[] tokens, int from, int to) {
        StringBuilder text = new StringBuilder();
        for (int i = from; i < to; i++) {
            text.append(tokens[i]).append(' ');
        }
        return text.toString();
    }

    private void compare(String text) {
        TypeGuard guard = new TypeGuard();
        Model model = new Model();
        Check.write(guard, text);
        for (char letter : text.toCharArray()) {
            model.type(letter, 1);
        }
        check.same("load of '" + text + "'", Check.outcome(model::load), Check.outcome(guard::load));
        for (int what = 0; what < 2; what++) {
            check.same("fault(" + what + ") of '" + text + "'", model.fault(what), guard.fault(what));
        }
        for (int what = 0; what < 6; what++) {
            check.same("count(" + what + ") of '" + text + "'", model.count(what), guard.count(what));
        }
        kinds[model.fault(0)]++;
        // More types would take more calls than an object has.
        int types = Math.min(3, model.count(0));
        for (int source = 0; source < types; source++) {
            for (int target = 0; target < types; target++) {
                compareVectors(guard, model, source, target, text);
            }
        }
    }

    private void compareVectors(TypeGuard guard, Model model, int source, int target, String text) {
        for (int c = 0; c < model.count(1); c++) {
            String these = source + ", " + target + ", " + c;
            for (int kind = 0; kind < 3; kind++) {
                check.same("vector(" + kind + ", " + these + ") of '" + text + "'", model.vector(kind, source, target, c),
                        Check.vector(guard, kind, source, target, c));
            }
            for (int k = 0; k < 3; k++) {
                check.same("why(" + these + ", " + k + ") of '" + text + "'", model.why(source, target, c, k),
                        Check.why(guard, source, target, c, k));
            }
        }
    }
}
