import java.util.NoSuchElementException;

/** A policy of types that is read from text, and the processes and objects that are held to it. */
public final class TypeGuard {
    public static final int NONE = -1;

    private static final int TEXT_MAX = 480;
    private static final int WORD_BYTES = 8;
    private static final int NAME_MAX = 9;
    private static final int TYPES_MAX = 12;
    private static final int ATTRIBUTES_MAX = 4;
    private static final int CLASSES_MAX = 4;
    private static final int PERMISSIONS_MAX = 8;
    private static final int BOOLS_MAX = 3;
    private static final int RULES_MAX = 24;
    private static final int PROCESSES = 6;
    private static final int OBJECTS = 10;
    private static final int ENTRIES_MAX = 6;
    private static final int NOTES_MAX = 8;
    private static final int NOTE_PARTS = 5;

    private static final int NO_FAULT = 0;
    private static final int OUT_OF_PLACE = 1;
    private static final int NOT_DECLARED = 2;
    private static final int DECLARED_ALREADY = 3;
    private static final int TOO_MANY = 4;
    private static final int MOVE_DISPUTED = 5;
    private static final int NEVER_BROKEN = 6;

    private static final int TO_EXECUTE = 0;
    private static final int TO_ENTER = 1;
    private static final int TO_CREATE = 2;

    private final char[] text = new char[TEXT_MAX];
    private int textLength;
    private final Reader reader = new Reader();
    private Policy policy = new Policy();
    private int sequence;
    private final long[] processTypes = new long[PROCESSES];
    private final long[] objectTypes = new long[OBJECTS];
    private final long[] objectClasses = new long[OBJECTS];
    private final VectorCache entries = new VectorCache();
    private final NoteLog log = new NoteLog();

    public TypeGuard() {
    }

    public boolean type(long word, int n) {
        if (n < 1 || n > WORD_BYTES || n > TEXT_MAX - textLength) {
            return false;
        }
        for (int i = 0; i < n; i++) {
            int letter = byteOf(word, i);
            if (letter < 32 || letter > 126) {
                return false;
            }
        }
        for (int i = n - 1; i >= 0; i--) {
            text[textLength] = (char) byteOf(word, i);
            textLength++;
        }
        return true;
    }

    public int load() throws IllegalArgumentException {
        boolean sound = reader.read(text, textLength);
        textLength = 0;
        if (!sound) {
            throw new IllegalArgumentException();
        }
        policy = reader.exchange(policy);
        sequence++;
        return sequence;
    }

    public int fault(int what) {
        switch (what) {
            case 0:
                return reader.faultKind;
            case 1:
                return reader.faultPlace;
            default:
                return NONE;
        }
    }

    public int count(int what) {
        switch (what) {
            case 0:
                return policy.types.size;
            case 1:
                return policy.classes.size;
            case 2:
                return policy.bools.size;
            case 3:
                return policy.ruleCount;
            case 4:
                return sequence;
            case 5:
                return textLength;
            default:
                return NONE;
        }
    }

    public boolean flip(int b, boolean v) throws NoSuchElementException {
        if (!policy.bools.hasNumber(b)) {
            throw new NoSuchElementException();
        }
        boolean before = policy.states[b];
        if (before != v) {
            policy.states[b] = v;
            sequence++;
        }
        return before;
    }

    public int vector(int kind, int source, int target, int c) throws NoSuchElementException {
        if (kind < 0 || kind > 2 || !areKnown(source, target, c)) {
            throw new NoSuchElementException();
        }
        if (kind == 0) {
            return policy.permissionsBy(Word.ALLOW, source, target, c);
        }
        return policy.permissionsBy(kind == 1 ? Word.AUDIT : Word.HUSH, source, target, c);
    }

    public int why(int source, int target, int c, int k) throws NoSuchElementException {
        if (!areKnown(source, target, c)) {
            throw new NoSuchElementException();
        }
        return policy.placeOfAllow(source, target, c, k);
    }

    public void enter(int p, int t) throws NoSuchElementException {
        if (!isProcess(p) || !policy.types.hasNumber(t)) {
            throw new NoSuchElementException();
        }
        processTypes[p] = policy.types.nameOf(t);
    }

    public void put(int o, int t, int c) throws NoSuchElementException {
        if (!isObject(o) || !policy.types.hasNumber(t) || !policy.classes.hasNumber(c)) {
            throw new NoSuchElementException();
        }
        objectTypes[o] = policy.types.nameOf(t);
        objectClasses[o] = policy.classes.nameOf(c);
    }

    public int label(int what, int k) {
        switch (what) {
            case 0:
                return typeOfProcess(k);
            case 1:
                return typeOfObject(k);
            case 2:
                return classOfObject(k);
            default:
                return NONE;
        }
    }

    public boolean ask(int p, int o, int k) throws NoSuchElementException {
        if (!areLabelled(p, o)) {
            throw new NoSuchElementException();
        }
        return isGranted(typeOfProcess(p), typeOfObject(o), classOfObject(o), k);
    }

    public int run(int p, int o) throws NoSuchElementException, UnsupportedOperationException {
        if (!areLabelled(p, o)) {
            throw new NoSuchElementException();
        }
        int before = typeOfProcess(p);
        int target = typeOfObject(o);
        int c = classOfObject(o);
        if (!isGranted(before, target, c, TO_EXECUTE)) {
            throw new UnsupportedOperationException();
        }
        int after = policy.moved(before, target, c, before);
        if (after != before && !isGranted(after, target, c, TO_ENTER)) {
            throw new UnsupportedOperationException();
        }
        processTypes[p] = policy.types.nameOf(after);
        return after;
    }

    public int make(int p, int o, int n) throws NoSuchElementException, UnsupportedOperationException {
        if (!areLabelled(p, o) || !isObject(n)) {
            throw new NoSuchElementException();
        }
        int source = typeOfProcess(p);
        int target = typeOfObject(o);
        int c = classOfObject(o);
        if (typeOfObject(n) != NONE || !isGranted(source, target, c, TO_CREATE)) {
            throw new UnsupportedOperationException();
        }
        int made = policy.moved(source, target, c, target);
        objectTypes[n] = policy.types.nameOf(made);
        objectClasses[n] = policy.classes.nameOf(c);
        return made;
    }

    public int cache(int what) {
        switch (what) {
            case 0:
                return entries.hits;
            case 1:
                return entries.misses;
            case 2:
                return entries.size;
            case 3:
                return entries.sizeOf(sequence);
            case 4:
                return log.total;
            default:
                return NONE;
        }
    }

    public int note(int i, int what) {
        return log.part(i, what);
    }

    private static int byteOf(long word, int i) {
        return (int) (word >>> (8 * i)) & 255;
    }

    private static boolean hasBit(int bits, int k) {
        return k >= 0 && k < 32 && (bits >>> k & 1) != 0;
    }

    private static boolean isProcess(int p) {
        return p >= 0 && p < PROCESSES;
    }

    private static boolean isObject(int o) {
        return o >= 0 && o < OBJECTS;
    }

    private boolean areKnown(int source, int target, int c) {
        return policy.types.hasNumber(source) && policy.types.hasNumber(target) && policy.classes.hasNumber(c);
    }

    private boolean areLabelled(int p, int o) {
        return typeOfProcess(p) != NONE && typeOfObject(o) != NONE && classOfObject(o) != NONE;
    }

    private int typeOfProcess(int p) {
        return isProcess(p) ? policy.types.numberOf(processTypes[p]) : NONE;
    }

    private int typeOfObject(int o) {
        return isObject(o) ? policy.types.numberOf(objectTypes[o]) : NONE;
    }

    private int classOfObject(int o) {
        return isObject(o) ? policy.classes.numberOf(objectClasses[o]) : NONE;
    }

    private boolean isGranted(int source, int target, int c, int k) {
        Entry entry = entries.entryFor(source, target, c, sequence);
        if (entry.sequence != sequence) {
            fill(entry);
        }
        boolean granted = hasBit(entry.allowed, k);
        boolean isNoted = granted ? hasBit(entry.audited, k) : !hasBit(entry.hushed, k);
        if (isNoted) {
            log.add(source, target, c, k, granted);
        }
        return granted;
    }

    private void fill(Entry entry) {
        entry.allowed = policy.permissionsBy(Word.ALLOW, entry.source, entry.target, entry.classNumber);
        entry.audited = policy.permissionsBy(Word.AUDIT, entry.source, entry.target, entry.classNumber);
        entry.hushed = policy.permissionsBy(Word.HUSH, entry.source, entry.target, entry.classNumber);
        entry.sequence = sequence;
    }

    /** The words that no statement can declare; OTHER stands for every token that is none of them. */
    private enum Word {
        OTHER(""), CLASS("class"), ATTRIBUTE("attribute"), TYPE("type"), BOOL("bool"),
        ALLOW("allow"), AUDIT("audit"), HUSH("hush"), NEVER("never"), MOVE("move"),
        IF("if"), ELSE("else"), TRUE("true"), FALSE("false"), SELF("self");

        private static final Word[] ALL = values();

        private final long code;

        Word(String letters) {
            long packed = 0;
            for (int i = 0; i < letters.length(); i++) {
                packed = packed << 7 | letters.charAt(i);
            }
            code = packed;
        }

        static Word of(long name) {
            for (Word word : ALL) {
                if (word.code == name) {
                    return word;
                }
            }
            return OTHER;
        }
    }

    /** The text cut into tokens, and the token that is looked at. */
    private static final class Tokens {
        private static final char NAME = 'a';
        private static final char WRONG = '?';
        private static final char END = ' ';
        private static final String SIGNS = "{}:;,~*-";

        // A sign's sort is the sign itself.
        private final char[] sorts = new char[TEXT_MAX + 1];
        private final int[] places = new int[TEXT_MAX + 1];
        // Nine letters of seven bits fit into a long, so that a name needs no object of its own.
        private final long[] names = new long[TEXT_MAX + 1];
        private int size;
        private int at;

        void scan(char[] text, int length) {
            size = 0;
            at = 0;
            boolean inName = false;
            for (int i = 0; i < length && i < text.length; i++) {
                char letter = text[i];
                if (inName && isOfName(letter)) {
                    extend(letter, i);
                } else {
                    inName = isLetter(letter);
                    if (letter != ' ') {
                        add(sortOf(letter), i, inName ? letter : 0);
                    }
                }
            }
            add(END, length, 0);
        }

        boolean is(char sort) {
            return sorts[at] == sort;
        }

        /** The packed letters of a name; 0, which no name has, for all else. */
        long name() {
            return names[at];
        }

        Word word() {
            return Word.of(names[at]);
        }

        int place() {
            return places[at];
        }

        void advance() {
            if (at < size - 1) {
                at++;
            }
        }

        boolean skip(char sort) {
            boolean found = is(sort);
            if (found) {
                advance();
            }
            return found;
        }

        boolean skipWord(Word expected) {
            boolean found = names[at] == expected.code;
            if (found) {
                advance();
            }
            return found;
        }

        private void add(char sort, int place, long name) {
            if (size < sorts.length) {
                sorts[size] = sort;
                places[size] = place;
                names[size] = name;
                size++;
            }
        }

        private void extend(char letter, int place) {
            int last = size - 1;
            if (last < 0) {
                return;
            }
            if (place - places[last] < NAME_MAX) {
                names[last] = names[last] << 7 | letter;
            } else {
                sorts[last] = WRONG;
                names[last] = 0;
            }
        }

        private static char sortOf(char letter) {
            if (isLetter(letter)) {
                return NAME;
            }
            return SIGNS.indexOf(letter) >= 0 ? letter : WRONG;
        }

        private static boolean isLetter(char letter) {
            return letter >= 'a' && letter <= 'z';
        }

        private static boolean isOfName(char letter) {
            return isLetter(letter) || letter >= '0' && letter <= '9' || letter == '_';
        }
    }

    /** Names of one sort, numbered in the order of their declaration. */
    private static final class Names {
        private final long[] row;
        private int size;

        Names(int limit) {
            row = new long[limit];
        }

        boolean add(long name) {
            if (size >= row.length) {
                return false;
            }
            row[size] = name;
            size++;
            return true;
        }

        int numberOf(long name) {
            for (int i = 0; i < size; i++) {
                if (row[i] == name) {
                    return i;
                }
            }
            return NONE;
        }

        long nameOf(int number) {
            return hasNumber(number) ? row[number] : 0;
        }

        boolean hasNumber(int number) {
            return number >= 0 && number < size;
        }

        int allBits() {
            return (1 << size) - 1;
        }
    }

    /**
     * A set of types as it is written. Which types it has is known only behind the last statement,
     * since a type declared later may have an attribute that is named here.
     */
    private static final class TypeSet {
        private boolean inverted;
        private boolean everything;
        private int addedTypes;
        private int addedAttributes;
        private int removedTypes;
        private int removedAttributes;

        void clearNames() {
            addedTypes = 0;
            addedAttributes = 0;
            removedTypes = 0;
            removedAttributes = 0;
        }

        void mention(int typeBits, int attributeBits, boolean removes) {
            if (removes) {
                removedTypes |= typeBits;
                removedAttributes |= attributeBits;
            } else {
                addedTypes |= typeBits;
                addedAttributes |= attributeBits;
            }
        }
    }

    /** One rule; a move has a type to move to instead of permissions. */
    private static final class Rule {
        private Word word = Word.OTHER;
        private int place;
        private int condition = NONE;
        private boolean behindElse;
        private final TypeSet source = new TypeSet();
        private final TypeSet target = new TypeSet();
        private boolean self;
        private int sourceTypes;
        private int targetTypes;
        private int classes;
        private final int[] permissions = new int[CLASSES_MAX];
        private int movedTo = NONE;

        void begin(Word newWord, int newPlace, int newCondition, boolean isBehindElse) {
            word = newWord;
            place = newPlace;
            condition = newCondition;
            behindElse = isBehindElse;
            source.clearNames();
            target.clearNames();
            classes = 0;
            for (int c = 0; c < CLASSES_MAX; c++) {
                permissions[c] = 0;
            }
        }

        int targetsOf(int type) {
            if ((sourceTypes >>> type & 1) == 0) {
                return 0;
            }
            return self ? 1 << type : targetTypes;
        }

        boolean covers(int type, int targetType, int c) {
            return hasBit(classes, c) && hasBit(targetsOf(type), targetType);
        }

        boolean sharesTypesWith(Rule other) {
            for (int type = 0; type < TYPES_MAX; type++) {
                if ((targetsOf(type) & other.targetsOf(type)) != 0) {
                    return true;
                }
            }
            return false;
        }

        boolean sharesPermissionsWith(Rule other) {
            for (int c = 0; c < CLASSES_MAX; c++) {
                if ((permissions[c] & other.permissions[c]) != 0) {
                    return true;
                }
            }
            return false;
        }
    }

    /** What a text declares, and its rules. */
    private static final class Policy {
        private final Names types = new Names(TYPES_MAX);
        private final Names attributes = new Names(ATTRIBUTES_MAX);
        private final Names classes = new Names(CLASSES_MAX);
        private final Names bools = new Names(BOOLS_MAX);
        private final Names[] permissions = new Names[CLASSES_MAX];
        private final int[] members = new int[ATTRIBUTES_MAX];
        private final boolean[] states = new boolean[BOOLS_MAX];
        private final Rule[] rules = new Rule[RULES_MAX];
        private int ruleCount;

        Policy() {
            for (int c = 0; c < CLASSES_MAX; c++) {
                permissions[c] = new Names(PERMISSIONS_MAX);
            }
            for (int r = 0; r < RULES_MAX; r++) {
                rules[r] = new Rule();
            }
        }

        void clear() {
            types.size = 0;
            attributes.size = 0;
            classes.size = 0;
            bools.size = 0;
            ruleCount = 0;
            for (int c = 0; c < CLASSES_MAX; c++) {
                permissions[c].size = 0;
            }
            for (int a = 0; a < ATTRIBUTES_MAX; a++) {
                members[a] = 0;
            }
        }

        boolean declares(long name) {
            return types.numberOf(name) != NONE || attributes.numberOf(name) != NONE
                    || classes.numberOf(name) != NONE || bools.numberOf(name) != NONE;
        }

        int permissionsBy(Word word, int source, int target, int c) {
            int vector = 0;
            for (int r = 0; r < ruleCount; r++) {
                if (rules[r].word == word) {
                    vector |= permissionsInForce(rules[r], source, target, c);
                }
            }
            return vector;
        }

        int placeOfAllow(int source, int target, int c, int k) {
            for (int r = 0; r < ruleCount; r++) {
                Rule rule = rules[r];
                if (rule.word == Word.ALLOW && hasBit(permissionsInForce(rule, source, target, c), k)) {
                    return rule.place;
                }
            }
            return NONE;
        }

        int moved(int source, int target, int c, int otherwise) {
            for (int r = 0; r < ruleCount; r++) {
                if (rules[r].word == Word.MOVE && rules[r].covers(source, target, c)) {
                    return rules[r].movedTo;
                }
            }
            return otherwise;
        }

        void settleSets() {
            for (int r = 0; r < ruleCount; r++) {
                rules[r].sourceTypes = typesOf(rules[r].source);
                rules[r].targetTypes = typesOf(rules[r].target);
            }
        }

        /** The kind of fault that a rule has among the others. */
        int faultOf(Rule rule) {
            if (rule.word == Word.MOVE && isDisputed(rule)) {
                return MOVE_DISPUTED;
            }
            if (rule.word == Word.NEVER && isBroken(rule)) {
                return NEVER_BROKEN;
            }
            return NO_FAULT;
        }

        private boolean isDisputed(Rule move) {
            for (int r = 0; r < ruleCount; r++) {
                Rule other = rules[r];
                if (other.word == Word.MOVE && other.place < move.place && other.movedTo != move.movedTo
                        && (other.classes & move.classes) != 0 && other.sharesTypesWith(move)) {
                    return true;
                }
            }
            return false;
        }

        private boolean isBroken(Rule never) {
            for (int r = 0; r < ruleCount; r++) {
                Rule other = rules[r];
                if (other.word == Word.ALLOW && other.sharesPermissionsWith(never)
                        && other.sharesTypesWith(never)) {
                    return true;
                }
            }
            return false;
        }

        private int permissionsInForce(Rule rule, int source, int target, int c) {
            boolean inForce = rule.condition == NONE || states[rule.condition] != rule.behindElse;
            return inForce && rule.covers(source, target, c) ? rule.permissions[c] : 0;
        }

        private int typesOf(TypeSet set) {
            int all = types.allBits();
            int chosen = all;
            if (!set.everything) {
                int added = set.addedTypes | membersOf(set.addedAttributes);
                int removed = set.removedTypes | membersOf(set.removedAttributes);
                chosen = added & ~removed;
            }
            return set.inverted ? all & ~chosen : chosen;
        }

        private int membersOf(int attributeBits) {
            int found = 0;
            for (int a = 0; a < ATTRIBUTES_MAX; a++) {
                if (hasBit(attributeBits, a)) {
                    found |= members[a];
                }
            }
            return found;
        }
    }

    /** Reads a text into a policy of its own, up to the first fault. */
    private static final class Reader {
        private final Tokens tokens = new Tokens();
        private Policy draft = new Policy();
        private int faultKind = NO_FAULT;
        private int faultPlace = NONE;
        // The if whose rules are being read: its bool, or NONE outside of any if.
        private int condition = NONE;
        private boolean behindElse;

        boolean read(char[] text, int length) {
            faultKind = NO_FAULT;
            faultPlace = NONE;
            condition = NONE;
            draft.clear();
            tokens.scan(text, length);
            for (int i = 0; i <= TEXT_MAX && !isDone(); i++) {
                if (!readStatement()) {
                    faultPlace = tokens.place();
                    return false;
                }
            }
            draft.settleSets();
            return keepsPromises();
        }

        /** Gives away the policy that was read, and takes one that is of no more use for the next text. */
        Policy exchange(Policy old) {
            Policy done = draft;
            draft = old;
            return done;
        }

        private boolean isDone() {
            return condition == NONE && tokens.is(Tokens.END);
        }

        private boolean keepsPromises() {
            for (int r = 0; r < draft.ruleCount; r++) {
                faultKind = draft.faultOf(draft.rules[r]);
                if (faultKind != NO_FAULT) {
                    faultPlace = draft.rules[r].place;
                    return false;
                }
            }
            return true;
        }

        /** Tells a fault of the token that is looked at; the answer is always false. */
        private boolean refuse(int kind) {
            faultKind = kind;
            return false;
        }

        private boolean readStatement() {
            Word word = tokens.word();
            if (word == Word.ALLOW || word == Word.AUDIT || word == Word.HUSH) {
                return readRule(word);
            }
            if (condition != NONE) {
                return readEndOfBlock();
            }
            switch (word) {
                case CLASS:
                    return readClass();
                case ATTRIBUTE:
                    return readAttribute();
                case TYPE:
                    return readType();
                case BOOL:
                    return readBool();
                case NEVER:
                case MOVE:
                    return readRule(word);
                case IF:
                    return readIf();
                default:
                    return refuse(OUT_OF_PLACE);
            }
        }

        private boolean readClass() {
            tokens.advance();
            if (!declare(draft.classes, draft.declares(tokens.name())) || !expect('{')) {
                return false;
            }
            Names permissions = draft.permissions[draft.classes.size - 1];
            for (int i = 0; i <= PERMISSIONS_MAX; i++) {
                if (!declare(permissions, permissions.numberOf(tokens.name()) != NONE)) {
                    return false;
                }
                if (!tokens.is(Tokens.NAME)) {
                    break;
                }
            }
            return expect('}') && expect(';');
        }

        private boolean readAttribute() {
            tokens.advance();
            return declare(draft.attributes, draft.declares(tokens.name())) && expect(';');
        }

        private boolean readType() {
            tokens.advance();
            if (!declare(draft.types, draft.declares(tokens.name()))) {
                return false;
            }
            int typeBit = 1 << (draft.types.size - 1);
            for (int i = 0; i < TEXT_MAX && tokens.skip(','); i++) {
                int attribute = numberHere(draft.attributes);
                if (attribute == NONE) {
                    return false;
                }
                draft.members[attribute] |= typeBit;
            }
            return expect(';');
        }

        private boolean readBool() {
            tokens.advance();
            if (!declare(draft.bools, draft.declares(tokens.name()))) {
                return false;
            }
            boolean isTrue = tokens.skipWord(Word.TRUE);
            if (!isTrue && !tokens.skipWord(Word.FALSE)) {
                return refuse(OUT_OF_PLACE);
            }
            draft.states[draft.bools.size - 1] = isTrue;
            return expect(';');
        }

        private boolean readIf() {
            tokens.advance();
            int bool = numberHere(draft.bools);
            if (bool == NONE || !expect('{')) {
                return false;
            }
            condition = bool;
            behindElse = false;
            return true;
        }

        private boolean readEndOfBlock() {
            if (!expect('}')) {
                return false;
            }
            if (!behindElse && tokens.skipWord(Word.ELSE)) {
                behindElse = true;
                return expect('{');
            }
            condition = NONE;
            return expect(';');
        }

        private boolean readRule(Word word) {
            if (draft.ruleCount >= RULES_MAX) {
                return refuse(TOO_MANY);
            }
            Rule rule = draft.rules[draft.ruleCount];
            draft.ruleCount++;
            rule.begin(word, tokens.place(), condition, behindElse);
            tokens.advance();
            if (!readTypes(rule.source)) {
                return false;
            }
            rule.self = tokens.skipWord(Word.SELF);
            if (!rule.self && !readTypes(rule.target) || !expect(':')) {
                return false;
            }
            boolean sound = word == Word.MOVE ? readMove(rule) : readClasses(rule) && readPermissions(rule);
            return sound && expect(';');
        }

        private boolean readMove(Rule rule) {
            int c = numberHere(draft.classes);
            if (c == NONE) {
                return false;
            }
            rule.classes = 1 << c;
            rule.movedTo = numberHere(draft.types);
            return rule.movedTo != NONE;
        }

        private boolean readTypes(TypeSet set) {
            set.inverted = tokens.skip('~');
            set.everything = tokens.skip('*');
            boolean listed = !set.everything && tokens.skip('{');
            boolean more = !set.everything;
            for (int i = 0; more && i < TEXT_MAX; i++) {
                boolean removes = listed && tokens.skip('-');
                if (!readTypeName(set, removes)) {
                    return false;
                }
                more = listed && !tokens.skip('}');
            }
            return true;
        }

        private boolean readTypeName(TypeSet set, boolean removes) {
            int attribute = draft.attributes.numberOf(tokens.name());
            int type = draft.types.numberOf(tokens.name());
            if (attribute == NONE && type == NONE) {
                return refuse(tokens.is(Tokens.NAME) ? NOT_DECLARED : OUT_OF_PLACE);
            }
            if (type == NONE) {
                set.mention(0, 1 << attribute, removes);
            } else {
                set.mention(1 << type, 0, removes);
            }
            tokens.advance();
            return true;
        }

        private boolean readClasses(Rule rule) {
            boolean listed = tokens.skip('{');
            boolean more = true;
            for (int i = 0; more && i < TEXT_MAX; i++) {
                int c = numberHere(draft.classes);
                if (c == NONE) {
                    return false;
                }
                rule.classes |= 1 << c;
                more = listed && !tokens.skip('}');
            }
            return true;
        }

        private boolean readPermissions(Rule rule) {
            boolean inverted = tokens.skip('~');
            boolean everything = tokens.skip('*');
            boolean listed = !everything && tokens.skip('{');
            boolean more = !everything;
            for (int i = 0; more && i < TEXT_MAX; i++) {
                if (!readPermissionName(rule)) {
                    return false;
                }
                more = listed && !tokens.skip('}');
            }
            // Everything is all but nothing, and nothing has been named then.
            if (inverted != everything) {
                invertPermissions(rule);
            }
            return true;
        }

        private void invertPermissions(Rule rule) {
            for (int c = 0; c < CLASSES_MAX; c++) {
                if (hasBit(rule.classes, c)) {
                    rule.permissions[c] = draft.permissions[c].allBits() & ~rule.permissions[c];
                }
            }
        }

        private boolean readPermissionName(Rule rule) {
            if (!tokens.is(Tokens.NAME)) {
                return refuse(OUT_OF_PLACE);
            }
            for (int c = 0; c < CLASSES_MAX; c++) {
                if (hasBit(rule.classes, c)) {
                    int k = draft.permissions[c].numberOf(tokens.name());
                    if (k == NONE) {
                        return refuse(NOT_DECLARED);
                    }
                    rule.permissions[c] |= 1 << k;
                }
            }
            tokens.advance();
            return true;
        }

        private boolean expect(char sign) {
            return tokens.skip(sign) || refuse(OUT_OF_PLACE);
        }

        private boolean declare(Names names, boolean isTaken) {
            if (!tokens.is(Tokens.NAME)) {
                return refuse(OUT_OF_PLACE);
            }
            if (isTaken || tokens.word() != Word.OTHER) {
                return refuse(DECLARED_ALREADY);
            }
            if (!names.add(tokens.name())) {
                return refuse(TOO_MANY);
            }
            tokens.advance();
            return true;
        }

        /** The number that the name here has among these; NONE, with the fault told, if it has none. */
        private int numberHere(Names names) {
            int number = names.numberOf(tokens.name());
            if (number == NONE) {
                refuse(tokens.is(Tokens.NAME) ? NOT_DECLARED : OUT_OF_PLACE);
            } else {
                tokens.advance();
            }
            return number;
        }
    }

    /** The vectors of one source, target and class, as they were at one sequence number. */
    private static final class Entry {
        private int source;
        private int target;
        private int classNumber;
        private int sequence = NONE;
        private int lastAsk;
        private int allowed;
        private int audited;
        private int hushed;
    }

    private static final class VectorCache {
        private final Entry[] row = new Entry[ENTRIES_MAX];
        private int size;
        private int asks;
        private int hits;
        private int misses;

        VectorCache() {
            for (int i = 0; i < ENTRIES_MAX; i++) {
                row[i] = new Entry();
            }
        }

        /** The entry of these; on a miss it bears another sequence number and is to be filled. */
        Entry entryFor(int source, int target, int c, int sequence) {
            int found = find(source, target, c);
            if (found == NONE) {
                found = freePlace();
                row[found].source = source;
                row[found].target = target;
                row[found].classNumber = c;
                row[found].sequence = NONE;
            }
            if (row[found].sequence == sequence) {
                hits++;
            } else {
                misses++;
            }
            asks++;
            row[found].lastAsk = asks;
            return row[found];
        }

        int sizeOf(int sequence) {
            int found = 0;
            for (int i = 0; i < size; i++) {
                if (row[i].sequence == sequence) {
                    found++;
                }
            }
            return found;
        }

        private int find(int source, int target, int c) {
            for (int i = 0; i < size; i++) {
                Entry entry = row[i];
                if (entry.source == source && entry.target == target && entry.classNumber == c) {
                    return i;
                }
            }
            return NONE;
        }

        private int freePlace() {
            if (size < ENTRIES_MAX) {
                size++;
                return size - 1;
            }
            int oldest = 0;
            for (int i = 1; i < ENTRIES_MAX; i++) {
                if (row[i].lastAsk < row[oldest].lastAsk) {
                    oldest = i;
                }
            }
            return oldest;
        }
    }

    /** The latest notes, the oldest giving way to the newest. */
    private static final class NoteLog {
        private final int[][] rows = new int[NOTES_MAX][NOTE_PARTS];
        private int total;

        void add(int source, int target, int c, int k, boolean granted) {
            int[] row = rows[Math.floorMod(total, NOTES_MAX)];
            row[0] = source;
            row[1] = target;
            row[2] = c;
            row[3] = k;
            row[4] = granted ? 1 : 0;
            total++;
        }

        int part(int i, int what) {
            if (i < 0 || i >= NOTES_MAX || i >= total || what < 0 || what >= NOTE_PARTS) {
                return NONE;
            }
            return rows[Math.floorMod(total - 1 - i, NOTES_MAX)][what];
        }
    }
}
