/** What can be seen of an object without changing it. It costs some hundred calls of the object's 512. */
final class Snapshot {
    private Snapshot() {
    }

    static String all(TypeGuard guard) {
        return text(guard) + policy(guard) + labels(guard) + asked(guard);
    }

    /** All but the text and what the latest load told. */
    static String allButText(TypeGuard guard) {
        return policy(guard) + labels(guard) + asked(guard);
    }

    static String text(TypeGuard guard) {
        return "text " + guard.count(5) + " fault " + guard.fault(0) + " at " + guard.fault(1);
    }

    static String policy(TypeGuard guard) {
        StringBuilder seen = new StringBuilder(" policy");
        for (int what = 0; what <= 4; what++) {
            seen.append(' ').append(guard.count(what));
        }
        return seen + vectors(guard);
    }

    /** All vectors of the policy in force, and why permission 0 is allowed; keep the policy small. */
    static String vectors(TypeGuard guard) {
        StringBuilder seen = new StringBuilder(" vectors");
        for (int s = 0; s < guard.count(0); s++) {
            for (int t = 0; t < guard.count(0); t++) {
                for (int c = 0; c < guard.count(1); c++) {
                    seen.append(' ').append(guard.vector(0, s, t, c)).append(' ').append(guard.vector(1, s, t, c))
                            .append(' ').append(guard.vector(2, s, t, c)).append(' ').append(guard.why(s, t, c, 0));
                }
            }
        }
        return seen.toString();
    }

    static String labels(TypeGuard guard) {
        StringBuilder seen = new StringBuilder(" labels");
        for (int p = 0; p < 6; p++) {
            seen.append(' ').append(guard.label(0, p));
        }
        for (int o = 0; o < 10; o++) {
            seen.append(' ').append(guard.label(1, o)).append(' ').append(guard.label(2, o));
        }
        return seen.toString();
    }

    /** The cache and the log. */
    static String asked(TypeGuard guard) {
        StringBuilder seen = new StringBuilder(" cache");
        for (int what = 0; what <= 4; what++) {
            seen.append(' ').append(guard.cache(what));
        }
        seen.append(" log");
        for (int i = 0; i < 8; i++) {
            for (int what = 0; what <= 4; what++) {
                seen.append(' ').append(guard.note(i, what));
            }
        }
        return seen.toString();
    }
}
