import java.util.ArrayList;
import java.util.HashSet;
import java.util.LinkedHashMap;
import java.util.List;
import java.util.Map;
import java.util.NoSuchElementException;
import java.util.Set;
import java.util.TreeSet;
import java.util.regex.Matcher;
import java.util.regex.Pattern;

/**
 * The document once more, written another way: names stay texts, and a rule is the list of all that it says,
 * so that no bit or number of the program's is needed to know an answer.
 */
final class Model {
    private static final Pattern TOKEN = Pattern.compile("[a-z][a-z0-9_]*|[^ ]");
    private static final Set<String> WORDS = Set.of("class", "attribute", "type", "bool", "allow", "audit", "hush",
            "never", "move", "if", "else", "true", "false", "self");

    /** One thing that a rule says of a source, a target and a class: a permission, or a type to move to. */
    private record Grant(String source, String target, String inClass, String what) {
    }

    private static final class Rule {
        String word;
        int place;
        String bool;
        boolean behindElse;
        List<String> source;
        List<String> target;
        final List<String> classes = new ArrayList<>();
        final Map<String, Set<String>> whats = new LinkedHashMap<>();
        final Set<Grant> grants = new HashSet<>();
    }

    private static final class Policy {
        final Map<String, Set<String>> types = new LinkedHashMap<>();
        final Map<String, List<String>> classes = new LinkedHashMap<>();
        final Set<String> attributes = new HashSet<>();
        final Map<String, Boolean> bools = new LinkedHashMap<>();
        final List<Rule> rules = new ArrayList<>();

        boolean declares(String name) {
            return types.containsKey(name) || classes.containsKey(name) || attributes.contains(name)
                    || bools.containsKey(name);
        }
    }

    private static final class Faulty extends Exception {
        final int kind;
        final int place;

        Faulty(int kind, int place) {
            super(null, null, false, false);
            this.kind = kind;
            this.place = place;
        }
    }

    /** Reads one text. */
    private static final class Parser {
        final List<String> tokens = new ArrayList<>();
        final List<Integer> places = new ArrayList<>();
        final Policy policy = new Policy();
        int next;

        Parser(String text) {
            Matcher matcher = TOKEN.matcher(text);
            while (matcher.find()) {
                tokens.add(matcher.group());
                places.add(matcher.start());
            }
            tokens.add("");
            places.add(text.length());
        }

        String peek() {
            return tokens.get(next);
        }

        boolean peekName() {
            return peek().matches("[a-z][a-z0-9_]{0,8}");
        }

        boolean accept(String token) {
            if (peek().equals(token)) {
                next++;
                return true;
            }
            return false;
        }

        void fail(int kind) throws Faulty {
            throw new Faulty(kind, places.get(next));
        }

        void need(String token) throws Faulty {
            if (!accept(token)) {
                fail(1);
            }
        }

        void check(int kind, boolean holds) throws Faulty {
            if (!holds) {
                fail(kind);
            }
        }

        String fresh(boolean taken, int size, int limit) throws Faulty {
            check(1, peekName());
            check(3, !taken && !WORDS.contains(peek()));
            check(4, size < limit);
            return tokens.get(next++);
        }

        String known(Set<String> names) throws Faulty {
            check(1, peekName());
            check(2, names.contains(peek()));
            return tokens.get(next++);
        }

        Policy parse() throws Faulty {
            while (!peek().isEmpty()) {
                statement();
            }
            for (Rule rule : policy.rules) {
                expand(rule);
            }
            for (Rule rule : policy.rules) {
                promise(rule);
            }
            return policy;
        }

        void statement() throws Faulty {
            String word = peek();
            boolean taken = policy.declares(tokens.get(Math.min(next + 1, tokens.size() - 1)));
            switch (word) {
                case "class" -> {
                    next++;
                    List<String> permissions = new ArrayList<>();
                    policy.classes.put(fresh(taken, policy.classes.size(), 4), permissions);
                    need("{");
                    do {
                        permissions.add(fresh(permissions.contains(peek()), permissions.size(), 8));
                    } while (peekName());
                    need("}");
                }
                case "attribute" -> {
                    next++;
                    policy.attributes.add(fresh(taken, policy.attributes.size(), 4));
                }
                case "type" -> {
                    next++;
                    Set<String> attributes = new HashSet<>();
                    policy.types.put(fresh(taken, policy.types.size(), 12), attributes);
                    while (accept(",")) {
                        attributes.add(known(policy.attributes));
                    }
                }
                case "bool" -> {
                    next++;
                    String name = fresh(taken, policy.bools.size(), 3);
                    check(1, peek().equals("true") || peek().equals("false"));
                    policy.bools.put(name, tokens.get(next++).equals("true"));
                }
                case "if" -> {
                    next++;
                    String bool = known(policy.bools.keySet());
                    block(bool, false);
                    if (accept("else")) {
                        block(bool, true);
                    }
                }
                default -> {
                    check(1, Set.of("allow", "audit", "hush", "never", "move").contains(word));
                    rule(null, false);
                    return;
                }
            }
            need(";");
        }

        void block(String bool, boolean behindElse) throws Faulty {
            need("{");
            while (!accept("}")) {
                check(1, Set.of("allow", "audit", "hush").contains(peek()));
                rule(bool, behindElse);
            }
        }

        void rule(String bool, boolean behindElse) throws Faulty {
            check(4, policy.rules.size() < 24);
            Rule rule = new Rule();
            rule.place = places.get(next);
            rule.word = tokens.get(next++);
            rule.bool = bool;
            rule.behindElse = behindElse;
            rule.source = set();
            rule.target = accept("self") ? null : set();
            need(":");
            if (rule.word.equals("move")) {
                rule.classes.add(known(policy.classes.keySet()));
                rule.whats.put(rule.classes.get(0), Set.of(known(policy.types.keySet())));
            } else {
                classes(rule);
                permissions(rule);
            }
            need(";");
            policy.rules.add(rule);
        }

        /** The tokens of a set, looked at for faults alone: what they mean is known at the end. */
        List<String> set() throws Faulty {
            int from = next;
            Set<String> names = new HashSet<>(policy.attributes);
            names.addAll(policy.types.keySet());
            accept("~");
            if (accept("{")) {
                do {
                    accept("-");
                    known(names);
                } while (!accept("}"));
            } else if (!accept("*")) {
                known(names);
            }
            return tokens.subList(from, next);
        }

        void classes(Rule rule) throws Faulty {
            if (!accept("{")) {
                rule.classes.add(known(policy.classes.keySet()));
                return;
            }
            do {
                rule.classes.add(known(policy.classes.keySet()));
            } while (!accept("}"));
        }

        void permissions(Rule rule) throws Faulty {
            Set<String> common = new HashSet<>(policy.classes.get(rule.classes.get(0)));
            for (String c : rule.classes) {
                common.retainAll(policy.classes.get(c));
            }
            boolean inverted = accept("~");
            Set<String> named = new HashSet<>();
            boolean all = accept("*");
            if (!all && accept("{")) {
                do {
                    named.add(known(common));
                } while (!accept("}"));
            } else if (!all) {
                named.add(known(common));
            }
            for (String c : rule.classes) {
                Set<String> chosen = new HashSet<>();
                for (String permission : policy.classes.get(c)) {
                    if ((all || named.contains(permission)) != inverted) {
                        chosen.add(permission);
                    }
                }
                rule.whats.put(c, chosen);
            }
        }

        boolean has(List<String> set, String type) {
            boolean inverted = set.get(0).equals("~");
            boolean in = false;
            boolean out = false;
            for (int i = 0; i < set.size(); i++) {
                String item = set.get(i);
                if (item.equals("*") || item.equals(type) || policy.types.get(type).contains(item)) {
                    if (i > 0 && set.get(i - 1).equals("-")) {
                        out = true;
                    } else {
                        in = true;
                    }
                }
            }
            return (in && !out) != inverted;
        }

        void expand(Rule rule) {
            for (String source : policy.types.keySet()) {
                for (String target : policy.types.keySet()) {
                    boolean meant = rule.target == null ? source.equals(target) : has(rule.target, target);
                    if (meant && has(rule.source, source)) {
                        rule.whats.forEach((c, whats) -> whats.forEach(
                                what -> rule.grants.add(new Grant(source, target, c, what))));
                    }
                }
            }
        }

        void promise(Rule rule) throws Faulty {
            for (Rule other : policy.rules) {
                for (Grant grant : rule.grants) {
                    if (rule.word.equals("never") && other.word.equals("allow") && other.grants.contains(grant)) {
                        throw new Faulty(6, rule.place);
                    }
                    if (rule.word.equals("move") && other.word.equals("move") && other.place < rule.place) {
                        for (Grant before : other.grants) {
                            if (before.source.equals(grant.source) && before.target.equals(grant.target)
                                    && before.inClass.equals(grant.inClass) && !before.what.equals(grant.what)) {
                                throw new Faulty(5, rule.place);
                            }
                        }
                    }
                }
            }
        }
    }

    /** A cached answer: its sequence number and the three vectors. */
    private record Cached(int sequence, int allow, int audit, int hush) {
    }

    private final StringBuilder text = new StringBuilder();
    private Policy policy = new Policy();
    private int sequence;
    private int faultKind;
    private int faultPlace = -1;
    private final String[] processTypes = new String[6];
    private final String[] objectTypes = new String[10];
    private final String[] objectClasses = new String[10];
    private final LinkedHashMap<List<Integer>, Cached> cached = new LinkedHashMap<>();
    private final List<int[]> notes = new ArrayList<>();
    private int hits;
    private int misses;

    boolean type(long word, int n) {
        StringBuilder more = new StringBuilder();
        for (int i = 0; i < n && i < 8; i++) {
            more.insert(0, (char) (word >> 8 * i & 255));
        }
        if (n < 1 || n > 8 || !more.toString().matches("[ -~]*") || text.length() + n > 480) {
            return false;
        }
        text.append(more);
        return true;
    }

    int load() {
        Parser parser = new Parser(text.toString());
        text.setLength(0);
        try {
            policy = parser.parse();
        } catch (Faulty faulty) {
            faultKind = faulty.kind;
            faultPlace = faulty.place;
            throw new IllegalArgumentException();
        }
        faultKind = 0;
        faultPlace = -1;
        return ++sequence;
    }

    int fault(int what) {
        return what == 0 ? faultKind : what == 1 ? faultPlace : -1;
    }

    int count(int what) {
        int[] answers = {policy.types.size(), policy.classes.size(), policy.bools.size(), policy.rules.size(), sequence,
            text.length()};
        return what < 0 || what > 5 ? -1 : answers[what];
    }

    boolean flip(int b, boolean v) {
        boolean before = policy.bools.put(nameAt(policy.bools.keySet(), b), v);
        sequence += before == v ? 0 : 1;
        return before;
    }

    int vector(int kind, int source, int target, int c) {
        String[] words = {"allow", "audit", "hush"};
        if (kind < 0 || kind > 2) {
            throw new NoSuchElementException();
        }
        return bits(words[kind], nameAt(policy.types.keySet(), source), nameAt(policy.types.keySet(), target),
                nameAt(policy.classes.keySet(), c));
    }

    int why(int source, int target, int c, int k) {
        String inClass = nameAt(policy.classes.keySet(), c);
        String from = nameAt(policy.types.keySet(), source);
        String to = nameAt(policy.types.keySet(), target);
        List<String> permissions = policy.classes.get(inClass);
        if (k < 0 || k >= permissions.size()) {
            return -1;
        }
        for (Rule rule : policy.rules) {
            if (rule.word.equals("allow") && inForce(rule)
                    && rule.grants.contains(new Grant(from, to, inClass, permissions.get(k)))) {
                return rule.place;
            }
        }
        return -1;
    }

    void enter(int p, int t) {
        String name = nameAt(policy.types.keySet(), t);
        within(p, 6);
        processTypes[p] = name;
    }

    void put(int o, int t, int c) {
        String name = nameAt(policy.types.keySet(), t);
        String inClass = nameAt(policy.classes.keySet(), c);
        within(o, 10);
        objectTypes[o] = name;
        objectClasses[o] = inClass;
    }

    int label(int what, int k) {
        if (what < 0 || what > 2 || k < 0 || k >= (what == 0 ? 6 : 10)) {
            return -1;
        }
        if (what == 2) {
            return new ArrayList<>(policy.classes.keySet()).indexOf(objectClasses[k]);
        }
        return new ArrayList<>(policy.types.keySet()).indexOf((what == 0 ? processTypes : objectTypes)[k]);
    }

    boolean ask(int p, int o, int k) {
        needLabels(p, o);
        return granted(processTypes[p], o, k);
    }

    int run(int p, int o) {
        needLabels(p, o);
        if (!granted(processTypes[p], o, 0)) {
            throw new UnsupportedOperationException();
        }
        String after = moved(processTypes[p], o);
        if (after != null && !after.equals(processTypes[p])) {
            if (!granted(after, o, 1)) {
                throw new UnsupportedOperationException();
            }
            processTypes[p] = after;
        }
        return label(0, p);
    }

    int make(int p, int o, int n) {
        needLabels(p, o);
        within(n, 10);
        if (label(1, n) >= 0 || !granted(processTypes[p], o, 2)) {
            throw new UnsupportedOperationException();
        }
        String made = moved(processTypes[p], o);
        objectTypes[n] = made == null ? objectTypes[o] : made;
        objectClasses[n] = objectClasses[o];
        return label(1, n);
    }

    int cache(int what) {
        int fresh = 0;
        for (Cached entry : cached.values()) {
            fresh += entry.sequence == sequence ? 1 : 0;
        }
        int[] answers = {hits, misses, cached.size(), fresh, notes.size()};
        return what < 0 || what > 4 ? -1 : answers[what];
    }

    int note(int i, int what) {
        if (i < 0 || i >= Math.min(8, notes.size()) || what < 0 || what > 4) {
            return -1;
        }
        return notes.get(notes.size() - 1 - i)[what];
    }

    private static void within(int number, int size) {
        if (number < 0 || number >= size) {
            throw new NoSuchElementException();
        }
    }

    private static String nameAt(Set<String> names, int number) {
        within(number, names.size());
        return new ArrayList<>(names).get(number);
    }

    private void needLabels(int p, int o) {
        if (label(0, p) < 0 || label(1, o) < 0 || label(2, o) < 0) {
            throw new NoSuchElementException();
        }
    }

    private boolean inForce(Rule rule) {
        return rule.bool == null || policy.bools.get(rule.bool) != rule.behindElse;
    }

    private int bits(String word, String source, String target, String inClass) {
        Set<String> has = new TreeSet<>();
        for (Rule rule : policy.rules) {
            for (Grant grant : rule.grants) {
                if (rule.word.equals(word) && inForce(rule) && grant.source.equals(source)
                        && grant.target.equals(target) && grant.inClass.equals(inClass)) {
                    has.add(grant.what);
                }
            }
        }
        int bits = 0;
        for (String permission : has) {
            bits += 1 << policy.classes.get(inClass).indexOf(permission);
        }
        return bits;
    }

    private String moved(String source, int o) {
        for (Rule rule : policy.rules) {
            for (Grant grant : rule.grants) {
                if (rule.word.equals("move") && grant.source.equals(source) && grant.target.equals(objectTypes[o])
                        && grant.inClass.equals(objectClasses[o])) {
                    return grant.what;
                }
            }
        }
        return null;
    }

    private boolean granted(String source, int o, int k) {
        int from = new ArrayList<>(policy.types.keySet()).indexOf(source);
        List<Integer> key = List.of(from, label(1, o), label(2, o));
        // Taken out and put in again, an entry stands behind all that were asked for before.
        Cached entry = cached.remove(key);
        if (entry != null && entry.sequence == sequence) {
            hits++;
        } else {
            misses++;
            entry = new Cached(sequence, vector(0, from, key.get(1), key.get(2)),
                    vector(1, from, key.get(1), key.get(2)), vector(2, from, key.get(1), key.get(2)));
            if (cached.size() == 6) {
                cached.remove(cached.keySet().iterator().next());
            }
        }
        cached.put(key, entry);
        boolean allowed = has(entry.allow, k);
        if (allowed ? has(entry.audit, k) : !has(entry.hush, k)) {
            notes.add(new int[] {from, key.get(1), key.get(2), k, allowed ? 1 : 0});
        }
        return allowed;
    }

    private static boolean has(int bits, int k) {
        return k >= 0 && k < 8 && bits / (1 << k) % 2 == 1;
    }
}
