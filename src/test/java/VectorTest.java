/** Promise 7: vector, and what sets, classes and permissions a rule has. */
public final class VectorTest {
    private static final Check CHECK = new Check();
    private static final String HEAD = "class f{x y z};class g{z w};attribute d;attribute e;attribute n;"
            + "type a,d;type b,d,e;type c,e;type h;";

    public static void main(String[] args) {
        checkSets();
        checkSelf();
        checkLateMembers();
        checkPermissions();
        checkKinds();
        checkConditions();
        checkWrongNumbers();
        CHECK.end();
    }

    /** Which of the types a, b, c, h (bits 0 to 3) a set has, as source and as target. */
    private static void dueSet(String set, int types) {
        TypeGuard guard = Check.loaded(HEAD + "allow " + set + " h:f x;allow a " + set + ":f y;");
        for (int t = 0; t < 4; t++) {
            int has = types >> t & 1;
            CHECK.same(set + " as source has " + t, has, (Integer) Check.vector(guard, 0, t, 3, 0) & 1);
            CHECK.same(set + " as target has " + t, has * 2, (Integer) Check.vector(guard, 0, 0, t, 0) & 2);
        }
    }

    private static void checkSets() {
        dueSet("a", 0b0001);
        dueSet("h", 0b1000);
        dueSet("~a", 0b1110);
        dueSet("d", 0b0011);
        dueSet("~d", 0b1100);
        dueSet("n", 0);
        dueSet("~n", 0b1111);
        dueSet("*", 0b1111);
        dueSet("~*", 0);
        dueSet("{a}", 0b0001);
        dueSet("{a c}", 0b0101);
        dueSet("{d e}", 0b0111);
        dueSet("{d -e}", 0b0001);
        dueSet("{-e d}", 0b0001);
        dueSet("{d-b}", 0b0001);
        dueSet("{b -d b}", 0);
        dueSet("{-a}", 0);
        dueSet("~{-a}", 0b1111);
        dueSet("{d e -a -c}", 0b0010);
        dueSet("{h -a d}", 0b1010);
        dueSet("~{d -e}", 0b1110);
        dueSet("~{a b c h}", 0);
        dueSet("{a -h}", 0b0001);
        dueSet("{a b c h -d -e}", 0b1000);
        dueSet("{-d -n a b c h}", 0b1100);
    }

    private static void checkSelf() {
        TypeGuard guard = Check.loaded(HEAD + "allow d self:f x;hush ~d self:f {y z};");
        for (int s = 0; s < 4; s++) {
            for (int t = 0; t < 4; t++) {
                CHECK.same("allowed " + s + t, s == t && s < 2 ? 1 : 0, Check.vector(guard, 0, s, t, 0));
                CHECK.same("hushed " + s + t, s == t && s >= 2 ? 6 : 0, Check.vector(guard, 2, s, t, 0));
            }
        }
    }

    private static void checkLateMembers() {
        TypeGuard guard = Check.loaded("class f{x};attribute d;type a;allow a d:f x;audit a *:f x;hush a ~a:f x;"
                + "type b;type c,d;");
        CHECK.same("the attribute's later type", 1, Check.vector(guard, 0, 0, 2, 0));
        CHECK.same("a type without it", 0, Check.vector(guard, 0, 0, 1, 0));
        CHECK.same("all types, later ones too", 1, Check.vector(guard, 1, 0, 2, 0));
        CHECK.same("all but one, later ones too", 1, Check.vector(guard, 2, 0, 2, 0));
    }

    /** The vectors of f and g that classes and permissions give. */
    private static void duePermissions(String written, int ofF, int ofG) {
        TypeGuard guard = Check.loaded(HEAD + "allow a b:" + written + ";");
        CHECK.same(written + " of f", ofF, Check.vector(guard, 0, 0, 1, 0));
        CHECK.same(written + " of g", ofG, Check.vector(guard, 0, 0, 1, 1));
    }

    private static void checkPermissions() {
        duePermissions("f x", 1, 0);
        duePermissions("g z", 0, 1);
        duePermissions("g w", 0, 2);
        duePermissions("f {x z}", 5, 0);
        duePermissions("f *", 7, 0);
        duePermissions("f ~x", 6, 0);
        duePermissions("f ~{x z}", 2, 0);
        duePermissions("f ~*", 0, 0);
        duePermissions("{f g} z", 4, 1);
        duePermissions("{g f} {z}", 4, 1);
        duePermissions("{f g} *", 7, 3);
        duePermissions("{f g} ~z", 3, 2);
        duePermissions("{f} x", 1, 0);
        duePermissions("{g g} {w w}", 0, 2);
        TypeGuard eight = Check.loaded("type a;class f{a b c d e f g h};allow a a:f {a h};audit a a:f *;");
        CHECK.same("first and last", 129, Check.vector(eight, 0, 0, 0, 0));
        CHECK.same("all eight", 255, Check.vector(eight, 1, 0, 0, 0));
    }

    private static void checkKinds() {
        TypeGuard guard = Check.loaded(HEAD + "never a b:g z;move a b:f c;allow a b:f x;audit a b:f y;hush a b:f z;"
                + "allow a b:f y;audit a b:f x;allow a b:g w;");
        CHECK.same("allow", 3, Check.vector(guard, 0, 0, 1, 0));
        CHECK.same("audit", 3, Check.vector(guard, 1, 0, 1, 0));
        CHECK.same("hush", 4, Check.vector(guard, 2, 0, 1, 0));
        CHECK.same("the other class", 2, Check.vector(guard, 0, 0, 1, 1));
        CHECK.same("the other way", 0, Check.vector(guard, 0, 1, 0, 0));
        CHECK.same("hits", 0, guard.cache(0));
        CHECK.same("misses", 0, guard.cache(1));
        CHECK.same("entries", 0, guard.cache(2));
    }

    private static void checkConditions() {
        TypeGuard guard = Check.loaded("type a;class f{x y z};bool q false;allow a a:f z;"
                + "if q{allow a a:f x;audit a a:f y;}else{hush a a:f x;allow a a:f y;};audit a a:f x;");
        int[][] due = {{6, 1, 1}, {5, 3, 0}};
        for (int state = 0; state < 2; state++) {
            guard.flip(0, state == 1);
            for (int kind = 0; kind < 3; kind++) {
                CHECK.same("kind " + kind + " with " + state, due[state][kind], Check.vector(guard, kind, 0, 0, 0));
            }
        }
    }

    private static void checkWrongNumbers() {
        TypeGuard guard = Check.loaded("type a;type b;class f{x};class g{x};class h{x};allow * *:{f g h} x;");
        CHECK.same("the last of each", 1, Check.vector(guard, 0, 1, 1, 2));
        int[][] wrong = {{3, 0, 0, 0}, {-1, 0, 0, 0}, {0, 2, 0, 0}, {0, -1, 0, 0}, {0, 0, 2, 0}, {0, 0, -1, 0},
            {0, 0, 0, 3}, {0, 0, 0, -1}, {Integer.MIN_VALUE, 0, 0, 0}, {0, 0, 0, Integer.MAX_VALUE}};
        for (int[] w : wrong) {
            CHECK.same(java.util.Arrays.toString(w), Check.NO_SUCH, Check.vector(guard, w[0], w[1], w[2], w[3]));
        }
    }
}
