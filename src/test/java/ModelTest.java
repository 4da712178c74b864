import java.util.Random;

/** Long runs of calls, chosen by a fixed seed, on the program and on the model side by side. */
public final class ModelTest {
    private static final int RUNS = 4000;
    private static final int CALLS = 512;
    private static final String[] NAMES = {"a", "b", "c", "d", "e", "g", "h", "abcdefghi", "a_1"};
    private static final String[] STRAY = {";", "{", "}", ":", ",", "~", "*", "-", "self", "if", "else", "type", "never",
        "move", "allow", "zz", "q0", "f0", "t0", "d0", "abcdefghij", "@", "9", "true", "x"};

    private final Check check;
    private final Random random;
    private final TypeGuard guard = new TypeGuard();
    private final Model model = new Model();
    private int calls;

    private ModelTest(Check check, long seed) {
        this.check = check;
        random = new Random(seed);
    }

    public static void main(String[] args) {
        Check check = new Check();
        int[] kinds = new int[7];
        for (int run = 0; run < RUNS; run++) {
            new ModelTest(check, run).play(kinds);
        }
        for (int kind = 0; kind < kinds.length; kind++) {
            check.that("loads ended with kind " + kind + " often enough: " + kinds[kind], kinds[kind] > 50);
        }
        check.end();
    }

    private void play(int[] kinds) {
        while (calls < CALLS - 100) {
            String text = random.nextInt(4) == 0 ? spoiled(policy()) : policy();
            write(text);
            same("load() of " + text, Check.outcome(guard::load), Check.outcome(model::load));
            kinds[model.fault(0)]++;
            same("fault(0) of " + text, guard.fault(0), model.fault(0));
            same("fault(1) of " + text, guard.fault(1), model.fault(1));
            int more = random.nextInt(120);
            for (int i = 0; i < more && calls < CALLS - 1; i++) {
                call();
            }
        }
    }

    private void same(String what, Object got, Object due) {
        calls++;
        check.same(what, due, got);
    }

    private int below(int bound) {
        return random.nextInt(bound);
    }

    /** Mostly 0 .. size - 1, at times just beside. */
    private int number(int size) {
        return below(40) == 0 ? below(2) == 0 ? -1 : size : below(Math.max(size, 1));
    }

    private void write(String text) {
        for (int from = 0; from < text.length(); from += 8) {
            int to = Math.min(from + 8, text.length());
            long word = Check.packed(text.substring(from, to));
            same("type", guard.type(word, to - from), model.type(word, to - from));
        }
        same("count(5)", guard.count(5), model.count(5));
    }

    private void call() {
        int p = number(6);
        int o = number(10);
        int k = number(4);
        // The model is asked, since what an object answers behind its 512th call is free.
        int s = number(model.count(0));
        int t = number(model.count(0));
        int c = number(model.count(1));
        switch (below(14)) {
            case 0 -> same("enter", Check.enter(guard, p, t), Check.outcome(() -> {
                model.enter(p, t);
                return "done";
            }));
            case 1, 2 -> same("put", Check.put(guard, o, t, c), Check.outcome(() -> {
                model.put(o, t, c);
                return "done";
            }));
            case 3 -> {
                int b = number(model.count(2));
                boolean v = random.nextBoolean();
                same("flip", Check.flip(guard, b, v), Check.outcome(() -> model.flip(b, v)));
            }
            case 4 -> {
                int kind = number(3);
                same("vector", Check.vector(guard, kind, s, t, c), Check.outcome(() -> model.vector(kind, s, t, c)));
            }
            case 5 -> same("why", Check.why(guard, s, t, c, k), Check.outcome(() -> model.why(s, t, c, k)));
            case 6, 7, 8 -> same("ask", Check.ask(guard, p, o, k), Check.outcome(() -> model.ask(p, o, k)));
            case 9 -> same("run", Check.run(guard, p, o), Check.outcome(() -> model.run(p, o)));
            case 10 -> {
                int n = number(10);
                same("make", Check.make(guard, p, o, n), Check.outcome(() -> model.make(p, o, n)));
            }
            case 11 -> {
                int what = number(3);
                same("label", guard.label(what, o), model.label(what, o));
            }
            case 12 -> {
                int what = number(6);
                same("cache", guard.cache(what), model.cache(what));
                same("count", guard.count(what), model.count(what));
            }
            default -> {
                int i = number(9);
                int what = number(5);
                same("note", guard.note(i, what), model.note(i, what));
            }
        }
    }

    private String any(String... choices) {
        return choices[below(choices.length)];
    }

    private String policy() {
        StringBuilder text = new StringBuilder();
        int classes = 1 + below(2);
        text.append("class f{x y z").append(below(2) == 0 ? " w" : "").append("};");
        if (classes == 2) {
            text.append("class g{y x};");
        }
        text.append("attribute m;attribute n;bool q ").append(any("true", "false")).append(";");
        int types = 2 + below(3);
        int from = below(3);
        for (int i = 0; i < types; i++) {
            text.append("type t").append(from + i).append(any("", "", ",m", ",n", ", m , n")).append(";");
        }
        String last = "t" + (from + types - 1);
        int rules = 1 + below(8);
        for (int i = 0; i < rules; i++) {
            String rule = below(5) == 0 ? ifStatement(from, types, classes) : rule(from, types, classes, true);
            text.append(rule).append(below(8) == 0 ? "  " : "");
        }
        if (below(4) == 0) {
            text.append("type ").append(any(NAMES)).append(",m;allow ").append(last).append(" m:f x;");
        }
        return text.length() <= 480 ? text.toString() : "type t0;type t1;class f{x y z};allow * *:f *;";
    }

    private String ifStatement(int from, int types, int classes) {
        StringBuilder text = new StringBuilder("if q{");
        for (int i = below(3); i > 0; i--) {
            text.append(rule(from, types, classes, false));
        }
        if (below(2) == 0) {
            text.append("}else{");
            for (int i = below(3); i > 0; i--) {
                text.append(rule(from, types, classes, false));
            }
        }
        return text.append("};").toString();
    }

    private String rule(int from, int types, int classes, boolean outside) {
        String word = outside ? any("allow", "allow", "allow", "allow", "audit", "hush", "never", "move")
                : any("allow", "audit", "hush");
        String source = set(from, types);
        String target = below(5) == 0 ? "self" : set(from, types);
        if (word.equals("move") || word.equals("never") && below(2) == 0) {
            source = "t" + (from + below(types));
        }
        String ends = word.equals("move") ? any("f", classes == 2 ? "g" : "f") + " t" + (from + below(types))
                : any("f", classes == 2 ? "g" : "f", classes == 2 ? "{f g}" : "{f}") + " "
                        + (word.equals("never") ? any("x", "y") : any("x", "y", "*", "~x", "{x y}", "~{y}"));
        return word + " " + source + " " + target + ":" + ends + ";";
    }

    private String set(int from, int types) {
        String a = "t" + (from + below(types));
        String b = "t" + (from + below(types));
        return any(a, a, a, "m", "n", "*", "~" + a, "~m", "{" + a + " " + b + "}", "{m -" + a + "}", "{-n " + a + " m}",
                "~{" + a + "-" + b + "}", "~*");
    }

    /** The text with one token put in, taken out or changed, or cut off. */
    private String spoiled(String text) {
        int place = below(text.length());
        String front = text.substring(0, place);
        String back = text.substring(place);
        String changed = switch (below(4)) {
            case 0 -> front + " " + any(STRAY) + " " + back;
            case 1 -> front + any(STRAY) + text.substring(Math.min(place + 1 + below(3), text.length()));
            case 2 -> front;
            default -> text + any("class u{x};class v{x};class w{x};class y{x};", "bool b true;bool c true;bool d true;",
                    "attribute r;attribute s;attribute u;", "class u{x y x};", "class v{a b c d e f g h i};", "type q;");
        };
        return changed.length() <= 480 ? changed : text;
    }
}
