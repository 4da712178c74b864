/** The edges of the numbers that promises 6 to 11 take: the first and the last that is there, and those beside. */
public final class NumberEdgeTest {
    private static final int[] FAR = {Integer.MIN_VALUE, Integer.MIN_VALUE + 1, -256, -32, -2, -1, 32, 64, 256,
        Integer.MAX_VALUE};
    private static final int[][] SIZES = {{0, 0, 0}, {1, 1, 1}, {2, 3, 2}, {12, 4, 3}};
    private static final Check CHECK = new Check();

    public static void main(String[] args) {
        for (int[] size : SIZES) {
            checkFlip(size);
            checkVector(size);
            checkWhy(size);
            checkEnter(size);
            checkPut(size);
        }
        checkFlipThatChangesNothing();
        checkPermissionsOfWhy();
        checkLabel();
        checkNumbersOfASmallerPolicy();
        checkNamesThatCountAsNone();
        CHECK.end();
    }

    /** So many types, classes (of one permission) and bools; everything is allowed, audited and hushed. */
    private static TypeGuard guardOf(int[] size) {
        StringBuilder text = new StringBuilder();
        for (int t = 0; t < size[0]; t++) {
            text.append("type t").append(t).append(";");
        }
        StringBuilder classes = new StringBuilder();
        for (int c = 0; c < size[1]; c++) {
            text.append("class c").append(c).append("{x};");
            classes.append(" c").append(c);
        }
        for (int b = 0; b < size[2]; b++) {
            text.append("bool b").append(b).append(" true;");
        }
        if (size[1] > 0) {
            text.append("allow * *:{").append(classes).append("} x;audit * *:{").append(classes).append("} x;hush * *:{")
                    .append(classes).append("} x;");
        }
        return Check.loaded(text.toString());
    }

    /** The numbers around 0 .. size - 1, and some far away. */
    private static int[] around(int size) {
        int[] numbers = new int[size + 5 + FAR.length];
        for (int i = 0; i < size + 5; i++) {
            numbers[i] = i - 2;
        }
        System.arraycopy(FAR, 0, numbers, size + 5, FAR.length);
        return numbers;
    }

    private static boolean isOf(int number, int size) {
        return number >= 0 && number < size;
    }

    private static void checkFlip(int[] size) {
        CHECK.sentence("flip: NoSuchElementException: there is none such");
        TypeGuard guard = guardOf(size);
        int number = 1;
        for (int b : around(size[2])) {
            boolean there = isOf(b, size[2]);
            CHECK.same("flip(" + b + ", false)", there ? true : Check.NO_SUCH, Check.flip(guard, b, false));
            number += there ? 1 : 0;
            CHECK.same("number behind flip(" + b + ")", number, guard.count(4));
        }
    }

    private static void checkVector(int[] size) {
        CHECK.sentence("vector: NoSuchElementException: there is no such type, class or kind");
        TypeGuard guard = guardOf(size);
        boolean some = size[0] > 0 && size[1] > 0;
        for (int kind : around(3)) {
            dueVector(guard, some && isOf(kind, 3), kind, 0, 0, 0);
        }
        for (int t : around(size[0])) {
            dueVector(guard, some && isOf(t, size[0]), 0, t, 0, 0);
            dueVector(guard, some && isOf(t, size[0]), 1, 0, t, 0);
            dueVector(guard, some && isOf(t, size[0]), 2, t, t, size[1] - 1);
        }
        for (int c : around(size[1])) {
            dueVector(guard, some && isOf(c, size[1]), 2, 0, size[0] - 1, c);
        }
        CHECK.same("the cache isn't asked", 0, guard.cache(0) + guard.cache(1) + guard.cache(2) + guard.cache(4));
    }

    private static void dueVector(TypeGuard guard, boolean there, int kind, int source, int target, int c) {
        CHECK.same("vector(" + kind + ", " + source + ", " + target + ", " + c + ")", there ? 1 : Check.NO_SUCH,
                Check.vector(guard, kind, source, target, c));
    }

    private static void checkWhy(int[] size) {
        CHECK.sentence("why: NoSuchElementException: there is no such type or class");
        TypeGuard guard = guardOf(size);
        boolean some = size[0] > 0 && size[1] > 0;
        for (int t : around(size[0])) {
            dueWhy(guard, some && isOf(t, size[0]), t, 0, 0);
            dueWhy(guard, some && isOf(t, size[0]), 0, t, 0);
        }
        for (int c : around(size[1])) {
            dueWhy(guard, some && isOf(c, size[1]), 0, size[0] - 1, c);
        }
    }

    private static void dueWhy(TypeGuard guard, boolean there, int source, int target, int c) {
        String call = "why(" + source + ", " + target + ", " + c;
        Object got = Check.why(guard, source, target, c, 0);
        boolean right = there ? got instanceof Integer && (Integer) got > 0 : got.equals(Check.NO_SUCH);
        CHECK.that(call + ", 0) answered " + got, right);
        CHECK.same(call + ", 1)", there ? -1 : Check.NO_SUCH, Check.why(guard, source, target, c, 1));
        CHECK.same(call + ", -1)", there ? -1 : Check.NO_SUCH, Check.why(guard, source, target, c, -1));
    }

    private static void checkEnter(int[] size) {
        CHECK.sentence("enter: NoSuchElementException: there is no such process or type; PROCESSES 0 .. 5");
        TypeGuard guard = guardOf(size);
        for (int p : around(6)) {
            boolean there = isOf(p, 6) && size[0] > 0;
            CHECK.same("enter(" + p + ", 0)", there ? "done" : Check.NO_SUCH, Check.enter(guard, p, 0));
            CHECK.same("label(0, " + p + ")", there ? 0 : -1, guard.label(0, p));
        }
        int last = size[0] > 0 ? 0 : -1;
        for (int t : around(size[0])) {
            boolean there = isOf(t, size[0]);
            CHECK.same("enter(5, " + t + ")", there ? "done" : Check.NO_SUCH, Check.enter(guard, 5, t));
            last = there ? t : last;
            CHECK.same("label(0, 5)", last, guard.label(0, 5));
        }
        CHECK.same("both wrong", Check.NO_SUCH, Check.enter(guard, 6, size[0]));
    }

    private static void checkPut(int[] size) {
        CHECK.sentence("put: NoSuchElementException: there is none such of one of these; OBJECTS 0 .. 9");
        TypeGuard guard = guardOf(size);
        boolean some = size[0] > 0 && size[1] > 0;
        for (int o : around(10)) {
            boolean there = some && isOf(o, 10);
            CHECK.same("put(" + o + ", 0, 0)", there ? "done" : Check.NO_SUCH, Check.put(guard, o, 0, 0));
            CHECK.same("label(1, " + o + ")", there ? 0 : -1, guard.label(1, o));
            CHECK.same("label(2, " + o + ")", there ? 0 : -1, guard.label(2, o));
        }
        int type = some ? 0 : -1;
        int c = some ? 0 : -1;
        for (int t : around(size[0])) {
            boolean there = some && isOf(t, size[0]);
            CHECK.same("put(9, " + t + ", 0)", there ? "done" : Check.NO_SUCH, Check.put(guard, 9, t, 0));
            type = there ? t : type;
            CHECK.same("label(1, 9)", type, guard.label(1, 9));
        }
        for (int number : around(size[1])) {
            boolean there = some && isOf(number, size[1]);
            CHECK.same("put(9, 0, " + number + ")", there ? "done" : Check.NO_SUCH, Check.put(guard, 9, 0, number));
            type = there ? 0 : type;
            c = there ? number : c;
            CHECK.same("label(1, 9)", type, guard.label(1, 9));
            CHECK.same("label(2, 9)", c, guard.label(2, 9));
        }
    }

    private static void checkFlipThatChangesNothing() {
        CHECK.sentence("Bool b becomes v: what it was; if it changes, the SEQUENCE number grows by 1");
        TypeGuard guard = Check.loaded("bool a true;bool b false;bool c true;");
        boolean[] states = {true, false, true};
        int number = 1;
        for (int i = 0; i < 48; i++) {
            int b = i % 3;
            boolean v = i / 3 % 4 < 2;
            number += states[b] == v ? 0 : 1;
            CHECK.same("flip(" + b + ", " + v + ")", states[b], Check.flip(guard, b, v));
            states[b] = v;
            CHECK.same("number", number, guard.count(4));
        }
    }

    private static void checkPermissionsOfWhy() {
        CHECK.sentence("why: NONE if there is none such, or no such permission");
        String text = "class f{a b c d e f g h};class g{a};type t;allow t t:f *;allow t t:g a;";
        TypeGuard guard = Check.loaded(text);
        int ofEight = text.indexOf("allow t t:f");
        int ofOne = text.indexOf("allow t t:g");
        for (int k : around(8)) {
            CHECK.same("permission " + k + " of eight", isOf(k, 8) ? ofEight : -1, Check.why(guard, 0, 0, 0, k));
            CHECK.same("permission " + k + " of one", k == 0 ? ofOne : -1, Check.why(guard, 0, 0, 1, k));
        }
        CHECK.sentence("why: the place of the word of the first allow in force");
        String late = "class f{x};type a;bool q true;if q{}else{allow a a:f x;};" + " ".repeat(409) + "allow a a:f x;";
        TypeGuard last = Check.loaded(late);
        CHECK.same("near the text's end", 466, Check.why(last, 0, 0, 0, 0));
        last.flip(0, false);
        CHECK.same("behind else", late.indexOf("allow"), Check.why(last, 0, 0, 0, 0));
        TypeGuard none = Check.loaded("class f{x y};type a;audit a a:f *;hush a a:f *;never a a:f y;move a a:f a;"
                + "allow a a:f ~*;");
        CHECK.same("no allow has it", -1, Check.why(none, 0, 0, 0, 0));
        CHECK.same("no allow has it", -1, Check.why(none, 0, 0, 0, 1));
    }

    private static void checkLabel() {
        CHECK.sentence("label: NONE if it counts as none, there is no such one, or for another what");
        TypeGuard guard = Check.loaded("class f{x};type a;");
        for (int p = 0; p < 6; p++) {
            CHECK.same("process " + p + " at first", -1, guard.label(0, p));
            guard.enter(p, 0);
        }
        for (int o = 0; o < 10; o++) {
            CHECK.same("type of object " + o + " at first", -1, guard.label(1, o));
            CHECK.same("class of object " + o + " at first", -1, guard.label(2, o));
            guard.put(o, 0, 0);
        }
        for (int k : around(10)) {
            CHECK.same("label(0, " + k + ")", isOf(k, 6) ? 0 : -1, guard.label(0, k));
            CHECK.same("label(1, " + k + ")", isOf(k, 10) ? 0 : -1, guard.label(1, k));
            CHECK.same("label(2, " + k + ")", isOf(k, 10) ? 0 : -1, guard.label(2, k));
        }
        for (int what : around(3)) {
            CHECK.same("label(" + what + ", 0)", isOf(what, 3) ? 0 : -1, guard.label(what, 0));
        }
    }

    private static void checkNumbersOfASmallerPolicy() {
        CHECK.sentence("by the policy in force");
        TypeGuard guard = guardOf(new int[] {12, 4, 3});
        CHECK.same("the last type", "done", Check.enter(guard, 0, 11));
        CHECK.same("load", 2, Check.load(guard, "type t11;class c{x};bool b true;"));
        CHECK.same("enter", Check.NO_SUCH, Check.enter(guard, 0, 1));
        CHECK.same("put", Check.NO_SUCH, Check.put(guard, 0, 0, 1));
        CHECK.same("put", Check.NO_SUCH, Check.put(guard, 0, 1, 0));
        CHECK.same("vector", Check.NO_SUCH, Check.vector(guard, 0, 0, 0, 1));
        CHECK.same("why", Check.NO_SUCH, Check.why(guard, 0, 1, 0, 0));
        CHECK.same("flip", Check.NO_SUCH, Check.flip(guard, 1, true));
        CHECK.same("the name has the number 0 now", 0, guard.label(0, 0));
    }

    private static void checkNamesThatCountAsNone() {
        CHECK.sentence("A name that the policy in force has not (as a type, as a class) counts as none; it counts again ..");
        TypeGuard guard = Check.loaded("class f{x};type a;");
        guard.enter(0, 0);
        guard.put(0, 0, 0);
        String[] policies = {"", "class a{x};type f;", "attribute a;bool f true;", "bool a true;attribute f;", "class g{a f};",
            "type aa;class ff{x};", "type a0;class f_{x};"};
        for (String text : policies) {
            Check.load(guard, text);
            CHECK.same("type of the process with " + text, -1, guard.label(0, 0));
            CHECK.same("type of the object with " + text, -1, guard.label(1, 0));
            CHECK.same("class of the object with " + text, -1, guard.label(2, 0));
            Check.load(guard, "type z;type a;class y{x};class z0{x};class f{y};");
            CHECK.same("type of the process again", 1, guard.label(0, 0));
            CHECK.same("type of the object again", 1, guard.label(1, 0));
            CHECK.same("class of the object again", 2, guard.label(2, 0));
        }
        Check.load(guard, "");
        CHECK.same("a faulty text does not bring it back", Check.ILLEGAL, Check.load(guard, "type a;class f{x};;"));
        CHECK.same("type of the process", -1, guard.label(0, 0));
        CHECK.same("class of the object", -1, guard.label(2, 0));
    }
}
