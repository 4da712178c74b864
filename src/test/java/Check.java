import java.util.function.Supplier;

/** What the tests share: counting wrong answers, typing texts, and catching what a call throws. */
final class Check {
    /** What a call answers here if it throws. */
    static final String NO_SUCH = "NoSuchElementException";
    static final String UNSUPPORTED = "UnsupportedOperationException";
    static final String ILLEGAL = "IllegalArgumentException";

    private int checks;
    private int wrong;
    private String sentence = "";

    /** From here on the answers are due by this sentence of the document. */
    void sentence(String words) {
        sentence = words;
    }

    void that(String what, boolean holds) {
        checks++;
        if (!holds) {
            tell("does not hold: " + what);
        }
    }

    void same(String what, Object due, Object got) {
        checks++;
        if (!due.equals(got)) {
            tell(what + " answered " + got + ", due is " + due);
        }
    }

    /** A new object takes the text, and has these many types, classes, bools and rules then. */
    TypeGuard sound(String text, int... counts) {
        TypeGuard guard = new TypeGuard();
        same("load of '" + text + "'", 1, load(guard, text));
        same("kind of '" + text + "'", 0, guard.fault(0));
        same("place of '" + text + "'", -1, guard.fault(1));
        for (int what = 0; what < counts.length; what++) {
            same("count(" + what + ") of '" + text + "'", counts[what], guard.count(what));
        }
        return guard;
    }

    /** A new object refuses the text, whose wrong place is marked by ^. */
    void faulty(int kind, String marked) {
        int place = marked.indexOf('^');
        faulty(kind, marked.substring(0, place) + marked.substring(place + 1), place);
    }

    void faulty(int kind, String text, int place) {
        TypeGuard guard = new TypeGuard();
        same("load of '" + text + "'", ILLEGAL, load(guard, text));
        same("kind of '" + text + "'", kind, guard.fault(0));
        same("place of '" + text + "'", place, guard.fault(1));
        same("number behind '" + text + "'", 0, guard.count(4));
    }

    private void tell(String what) {
        wrong++;
        System.out.println(what + (sentence.isEmpty() ? "" : "  [" + sentence + "]"));
    }

    void end() {
        System.out.println(checks + " answers looked at, " + wrong + " wrong");
        if (wrong != 0 || checks == 0) {
            System.exit(1);
        }
    }

    /** The answer of a call, or the simple name of what it throws. */
    static Object outcome(Supplier<Object> call) {
        try {
            return call.get();
        } catch (RuntimeException thrown) {
            return thrown.getClass().getSimpleName();
        }
    }

    static void write(TypeGuard guard, String text) {
        for (int from = 0; from < text.length(); from += 8) {
            int to = Math.min(from + 8, text.length());
            if (!guard.type(packed(text.substring(from, to)), to - from)) {
                throw new IllegalStateException("the text was not taken: " + text);
            }
        }
    }

    static long packed(String letters) {
        long word = 0;
        for (int i = 0; i < letters.length(); i++) {
            word = word << 8 | letters.charAt(i);
        }
        return word;
    }

    static Object load(TypeGuard guard, String text) {
        write(guard, text);
        return outcome(guard::load);
    }

    static TypeGuard loaded(String text) {
        TypeGuard guard = new TypeGuard();
        Object answer = load(guard, text);
        if (!answer.equals(1)) {
            throw new IllegalStateException(answer + " at " + guard.fault(1) + ", kind " + guard.fault(0) + ": " + text);
        }
        return guard;
    }

    /** A new object with this policy, whose process 0 has type 0, and object 0 type 0 and class 0. */
    static TypeGuard labelled(String text) {
        TypeGuard guard = loaded(text);
        guard.enter(0, 0);
        guard.put(0, 0, 0);
        return guard;
    }

    /** All parts of a note, in their order. */
    static String noted(TypeGuard guard, int i) {
        return guard.note(i, 0) + " " + guard.note(i, 1) + " " + guard.note(i, 2) + " " + guard.note(i, 3) + " "
                + guard.note(i, 4);
    }

    static Object vector(TypeGuard guard, int kind, int source, int target, int c) {
        return outcome(() -> guard.vector(kind, source, target, c));
    }

    static Object why(TypeGuard guard, int source, int target, int c, int k) {
        return outcome(() -> guard.why(source, target, c, k));
    }

    static Object flip(TypeGuard guard, int b, boolean v) {
        return outcome(() -> guard.flip(b, v));
    }

    static Object enter(TypeGuard guard, int p, int t) {
        return outcome(() -> {
            guard.enter(p, t);
            return "done";
        });
    }

    static Object put(TypeGuard guard, int o, int t, int c) {
        return outcome(() -> {
            guard.put(o, t, c);
            return "done";
        });
    }

    static Object ask(TypeGuard guard, int p, int o, int k) {
        return outcome(() -> guard.ask(p, o, k));
    }

    static Object run(TypeGuard guard, int p, int o) {
        return outcome(() -> guard.run(p, o));
    }

    static Object make(TypeGuard guard, int p, int o, int n) {
        return outcome(() -> guard.make(p, o, n));
    }
}
