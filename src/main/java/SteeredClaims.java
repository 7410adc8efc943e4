/** Proves equations about recursive functions on natural numbers by induction, steered by rippling. */
public final class SteeredClaims {
    public static final int UNKNOWN = -1, OUTSIDE = -2, STATE = -3, FULL = -4, NONE = -9;

    private static final int ZERO = 90, SUCCESSOR = 83, LETTER_A = 97, VARIABLE_X = 120;
    private static final int SEMICOLON = 59, EQUALS = 61;
    private static final int CODES = 128, TAPE_ROOM = 48, FAULT = -100;
    private static final int FUNCTIONS = 6, VARIABLES = 3, BODIES = 3;
    private static final int FIRST_BODY = 0, SECOND_BODY = 1, LAST_BODY = 2;
    private static final int BODY_ROOM = 10, SIDE_ROOM = 20, TERM_ROOM = 40;
    private static final int LEFT = 0, RIGHT = 1;
    private static final int MOST_WORK = 60, GREATEST_NUMBER = 99, MOST_BODIES = 50;
    private static final int GREATEST_ARGUMENT = 9, GREATEST_HELD = 5, GREATEST_TRIED = 2, GREATEST_TESTED = 3;
    private static final int LEMMAS = 8, NOTES = 99, LEVELS = 3, CAUSES = LEVELS + 1, GREATEST_CAUSE = 9;
    private static final int PROVED = 0, REFUTED = 1, STUCK = 2, OVERFLOW = 3, DEPTH = 4;
    // Each step of rippling lowers the difference, which is below 40 * 40.
    private static final int MOST_RIPPLES = TERM_ROOM * TERM_ROOM;

    private final Functions functions;
    private final Reader reader;
    private final Evaluator evaluator;
    private final Normalizer normalizer;
    private final Embedding embedding;
    private final Lemmas lemmas;
    private final Notes notes;
    private final Prover prover;
    private final Claim present;
    private final Claim drafted;
    private final Term draft;
    private boolean claimed;

    public SteeredClaims() {
        functions = new Functions();
        reader = new Reader(functions);
        evaluator = new Evaluator(functions);
        normalizer = new Normalizer(functions);
        embedding = new Embedding();
        Matcher matcher = new Matcher(functions);
        lemmas = new Lemmas(embedding, matcher);
        notes = new Notes();
        prover = new Prover(functions, evaluator, normalizer, matcher, lemmas, notes);
        present = new Claim();
        drafted = new Claim();
        draft = new Term();
        claimed = false;
    }

    public int type(int code) {
        if (isOutside(code, CODES - 1)) {
            return OUTSIDE;
        }
        if (reader.count >= TAPE_ROOM) {
            return FULL;
        }
        reader.put(code);
        return reader.count;
    }

    public int wipe() {
        int before = reader.count;
        reader.count = 0;
        return before;
    }

    public int function(int arity, int depth) {
        if (arity < 1 || arity > 2 || depth < 1 || depth > 2) {
            return OUTSIDE;
        }
        if (functions.count >= FUNCTIONS) {
            return FULL;
        }
        if (!reader.readFunction(arity, depth)) {
            return FAULT - reader.at;
        }
        functions.define(arity, depth, reader.parts);
        return functions.count - 1;
    }

    public int ofFunction(int f, int what) {
        if (isOutside(f, functions.count - 1)) {
            return UNKNOWN;
        }
        if (isOutside(what, 4)) {
            return OUTSIDE;
        }
        if (what == 0) {
            return functions.arity[f];
        }
        if (what == 1) {
            return functions.depth[f];
        }
        Term text = functions.bodyOf(f, what - 2);
        return text == null ? NONE : text.size;
    }

    public int body(int f, int which, int i) {
        if (isOutside(f, functions.count - 1)) {
            return UNKNOWN;
        }
        if (isOutside(which, BODIES - 1) || isOutside(i, BODY_ROOM - 1)) {
            return OUTSIDE;
        }
        Term text = functions.bodyOf(f, which);
        return text == null ? NONE : text.symbolOrSize(i);
    }

    public int claim() {
        if (!reader.readClaim()) {
            return FAULT - reader.at;
        }
        present.left.copy(reader.parts[LEFT]);
        present.right.copy(reader.parts[RIGHT]);
        claimed = true;
        return present.left.size + present.right.size;
    }

    public int side(int which, int i) {
        if (isOutside(which, RIGHT) || isOutside(i, SIDE_ROOM - 1)) {
            return OUTSIDE;
        }
        return claimed ? present.part(which).symbolOrSize(i) : STATE;
    }

    public int anew() {
        int before = functions.count;
        functions.forgetAll();
        lemmas.count = 0;
        notes.empty();
        claimed = false;
        return before;
    }

    public int value(int f, int m, int n, int what) {
        if (isOutside(f, functions.count - 1)) {
            return UNKNOWN;
        }
        boolean binary = functions.arity[f] == 2;
        if (isOutside(m, GREATEST_ARGUMENT) || isOutside(what, 1) || (binary && isOutside(n, GREATEST_ARGUMENT))) {
            return OUTSIDE;
        }
        draft.empty();
        draft.add(LETTER_A + f);
        draft.add(VARIABLE_X);
        if (binary) {
            draft.add(VARIABLE_X + 1);
        }
        int result = evaluator.valueOf(draft, m, n, 0);
        return result == NONE || what == 0 ? result : evaluator.work;
    }

    public int holds(int x, int y, int z) {
        if (isOutside(x, GREATEST_HELD) || isOutside(y, GREATEST_HELD) || isOutside(z, GREATEST_HELD)) {
            return OUTSIDE;
        }
        return claimed ? evaluator.compare(present, x, y, z) : STATE;
    }

    public int counter(int v) {
        if (isOutside(v, VARIABLES - 1)) {
            return OUTSIDE;
        }
        if (!claimed) {
            return STATE;
        }
        return evaluator.refutes(present) ? evaluator.example[v] : NONE;
    }

    public int normal(int which, int i) {
        if (isOutside(which, RIGHT) || isNoPlace(i, TERM_ROOM)) {
            return OUTSIDE;
        }
        if (!claimed || !normalizer.rewrite(present.part(which), draft, NONE, 0, false)) {
            return STATE;
        }
        return draft.symbolOrSize(i);
    }

    public int scheme(int what) {
        if (isOutside(what, 2)) {
            return OUTSIDE;
        }
        if (!claimed) {
            return STATE;
        }
        int variable = present.inductionVariable(functions);
        if (variable == NONE || what == 0) {
            return variable;
        }
        return what == 1 ? present.deepestCall(variable, functions) : present.callsOf(variable);
    }

    public int difference() {
        return claimed ? embedding.smallest(present.left, present.right) : STATE;
    }

    public int steered(int i) {
        if (isNoPlace(i, TERM_ROOM)) {
            return OUTSIDE;
        }
        if (!claimed || embedding.smallest(present.left, present.right) == NONE) {
            return STATE;
        }
        draft.copy(present.left);
        for (int step = 0; step < MOST_RIPPLES; step++) {
            if (lemmas.ripple(draft, present.right) == NONE) {
                break;
            }
        }
        return draft.symbolOrSize(i);
    }

    public int common(int i) {
        if (isNoPlace(i, SIDE_ROOM)) {
            return OUTSIDE;
        }
        if (!claimed) {
            return STATE;
        }
        int start = present.commonStart();
        if (start == NONE) {
            return NONE;
        }
        draft.empty();
        draft.addRange(present.left, start, present.left.end[start]);
        return draft.symbolOrSize(i);
    }

    public int general(int which, int i) {
        if (isOutside(which, RIGHT) || isNoPlace(i, SIDE_ROOM)) {
            return OUTSIDE;
        }
        if (!claimed) {
            return STATE;
        }
        present.generalize(drafted, functions);
        return drafted.part(which).symbolOrSize(i);
    }

    public int prove() {
        if (!claimed) {
            return STATE;
        }
        notes.empty();
        prover.start[0].copy(present);
        int kind = prover.attempt(0);
        if (kind == OVERFLOW) {
            notes.blame(0, OVERFLOW);
        }
        return kind;
    }

    public int why(int k) {
        if (isOutside(k, GREATEST_CAUSE)) {
            return OUTSIDE;
        }
        return k < notes.causes ? notes.cause[k] : NONE;
    }

    public int script(int k, int what) {
        if (isOutside(k, NOTES - 1) || isOutside(what, 1)) {
            return OUTSIDE;
        }
        if (k >= notes.count) {
            return NONE;
        }
        return what == 0 ? notes.kind[k] : notes.number[k];
    }

    public int lemma(int k, int which, int i) {
        if (isOutside(k, lemmas.count - 1)) {
            return UNKNOWN;
        }
        if (isOutside(which, RIGHT) || isNoPlace(i, TERM_ROOM)) {
            return OUTSIDE;
        }
        return lemmas.list[k].part(which).symbolOrSize(i);
    }

    public int tested(int k, int what) {
        if (isOutside(k, lemmas.count - 1)) {
            return UNKNOWN;
        }
        if (isOutside(what, 2)) {
            return OUTSIDE;
        }
        int answer = what == 0 ? 1 : what == 1 ? 0 : NONE;
        return evaluator.countTriples(lemmas.list[k], answer);
    }

    public int back() {
        if (lemmas.count <= 0) {
            return STATE;
        }
        lemmas.count--;
        return lemmas.count;
    }

    public int many(int what) {
        switch (what) {
            case 0:
                return functions.count;
            case 1:
                return lemmas.count;
            case 2:
                return reader.count;
            case 3:
                return notes.count;
            default:
                return OUTSIDE;
        }
    }

    private static boolean isOutside(int number, int greatest) {
        return number < 0 || number > greatest;
    }

    /** NONE asks for the size, so it is a place as well. */
    private static boolean isNoPlace(int i, int room) {
        return i != NONE && isOutside(i, room - 1);
    }

    /** A term in prefix notation; end[i] is the position behind the subterm that begins at position i. */
    private static final class Term {
        final int[] code = new int[TERM_ROOM];
        final int[] end = new int[TERM_ROOM];
        int size;

        void empty() {
            size = 0;
        }

        boolean add(int symbol) {
            if (size < 0 || size >= TERM_ROOM) {
                return false;
            }
            code[size] = symbol;
            size++;
            return true;
        }

        boolean addRange(Term other, int from, int to) {
            int length = to - from;
            if (from < 0 || length < 0 || to > other.size || size + length > TERM_ROOM) {
                return false;
            }
            System.arraycopy(other.code, from, code, size, length);
            size += length;
            return true;
        }

        /** Finds the ends of the subterms; due once the last symbol has been added. */
        void close(int[] arguments) {
            for (int i = size - 1; i >= 0; i--) {
                int stop = i + 1;
                int symbol = code[i];
                int open = symbol >= 0 && symbol < arguments.length ? arguments[symbol] : 0;
                for (int k = 0; k < open && stop < size; k++) {
                    stop = end[stop];
                }
                end[i] = stop;
            }
        }

        void copy(Term other) {
            size = other.size;
            System.arraycopy(other.code, 0, code, 0, other.size);
            System.arraycopy(other.end, 0, end, 0, other.size);
        }

        int symbolOrSize(int i) {
            if (i == NONE) {
                return size;
            }
            return i >= 0 && i < size ? code[i] : NONE;
        }

        boolean isSame(Term other) {
            return size == other.size && isSameAt(0, other, 0);
        }

        boolean isSameAt(int i, Term other, int j) {
            if (i < 0 || i >= size || j < 0 || j >= other.size) {
                return false;
            }
            int length = end[i] - i;
            if (other.end[j] - j != length) {
                return false;
            }
            for (int k = 0; k < length; k++) {
                if (code[i + k] != other.code[j + k]) {
                    return false;
                }
            }
            return true;
        }

        boolean has(int symbol) {
            for (int i = 0; i < size; i++) {
                if (code[i] == symbol) {
                    return true;
                }
            }
            return false;
        }

        boolean hasSubterm(Term other, int j) {
            for (int i = 0; i < size; i++) {
                if (isSameAt(i, other, j)) {
                    return true;
                }
            }
            return false;
        }

        /** In prefix notation the first argument of a function stands directly behind its letter. */
        boolean isCall(int variable, int i) {
            return i > 0 && i < size && code[i] == VARIABLE_X + variable && isLetter(code[i - 1]);
        }

        static boolean isLetter(int symbol) {
            return symbol >= LETTER_A && symbol < LETTER_A + FUNCTIONS;
        }
    }

    /** An equation of two terms. */
    private static final class Claim {
        final Term left = new Term();
        final Term right = new Term();

        Term part(int which) {
            return which == LEFT ? left : right;
        }

        void copy(Claim other) {
            left.copy(other.left);
            right.copy(other.right);
        }

        boolean isSame(Claim other) {
            return left.isSame(other.left) && right.isSame(other.right);
        }

        boolean isTrivial() {
            return left.isSame(right);
        }

        boolean has(int variable) {
            return left.has(VARIABLE_X + variable) || right.has(VARIABLE_X + variable);
        }

        int callsOf(int variable) {
            int calls = 0;
            for (int i = 0; i < TERM_ROOM; i++) {
                calls += left.isCall(variable, i) ? 1 : 0;
                calls += right.isCall(variable, i) ? 1 : 0;
            }
            return calls;
        }

        int deepestCall(int variable, Functions functions) {
            int deepest = 0;
            for (int i = 1; i < TERM_ROOM; i++) {
                if (left.isCall(variable, i)) {
                    deepest = Math.max(deepest, functions.depthOf(left.code[i - 1]));
                }
                if (right.isCall(variable, i)) {
                    deepest = Math.max(deepest, functions.depthOf(right.code[i - 1]));
                }
            }
            return deepest;
        }

        int inductionVariable(Functions functions) {
            int best = NONE;
            int bestCalls = 0;
            int bestDepth = 0;
            for (int variable = 0; variable < VARIABLES; variable++) {
                int calls = callsOf(variable);
                int depth = deepestCall(variable, functions);
                if (calls > bestCalls || (calls > 0 && calls == bestCalls && depth < bestDepth)) {
                    best = variable;
                    bestCalls = calls;
                    bestDepth = depth;
                }
            }
            return best;
        }

        /** The position of the common subterm in the left side, or NONE. */
        int commonStart() {
            int best = NONE;
            int bestSize = 0;
            for (int i = 0; i < left.size; i++) {
                int length = left.end[i] - i;
                if (length > bestSize && Term.isLetter(left.code[i]) && right.hasSubterm(left, i)) {
                    best = i;
                    bestSize = length;
                }
            }
            return best;
        }

        int freeVariable() {
            for (int variable = 0; variable < VARIABLES; variable++) {
                if (!has(variable)) {
                    return variable;
                }
            }
            return NONE;
        }

        /** Writes the generalization; tells the variable that was introduced, or NONE if it is the claim itself. */
        int generalize(Claim result, Functions functions) {
            int start = commonStart();
            int variable = start == NONE ? NONE : freeVariable();
            if (variable == NONE) {
                result.copy(this);
                return NONE;
            }
            putVariable(left, start, variable, result.left);
            putVariable(right, start, variable, result.right);
            result.left.close(functions.arguments);
            result.right.close(functions.arguments);
            return variable;
        }

        private void putVariable(Term source, int start, int variable, Term result) {
            result.empty();
            int next = 0;
            for (int i = 0; i < source.size; i++) {
                if (i < next) {
                    continue;
                }
                boolean found = left.isSameAt(start, source, i);
                result.add(found ? VARIABLE_X + variable : source.code[i]);
                next = found ? source.end[i] : i + 1;
            }
        }
    }

    /** The functions that are defined. */
    private static final class Functions {
        final int[] arity = new int[FUNCTIONS];
        final int[] depth = new int[FUNCTIONS];
        final Term[] bodies = new Term[FUNCTIONS * BODIES];
        // How many arguments each symbol has, by its code.
        final int[] arguments = new int[CODES];
        int count;

        Functions() {
            for (int i = 0; i < FUNCTIONS * BODIES; i++) {
                bodies[i] = new Term();
            }
            arguments[SUCCESSOR] = 1;
        }

        void define(int newArity, int newDepth, Term[] texts) {
            if (count < 0 || count >= FUNCTIONS || newDepth < 1 || newDepth >= texts.length) {
                return;
            }
            arity[count] = newArity;
            depth[count] = newDepth;
            arguments[LETTER_A + count] = newArity;
            for (int i = 0; i <= newDepth; i++) {
                int which = i == newDepth ? LAST_BODY : i;
                bodies[count * BODIES + which].copy(texts[i]);
            }
            count++;
        }

        void forgetAll() {
            for (int f = 0; f < FUNCTIONS; f++) {
                arguments[LETTER_A + f] = 0;
            }
            count = 0;
        }

        /** The body, or null if the function has no such body. */
        Term bodyOf(int f, int which) {
            if (f < 0 || f >= count || which < 0 || which >= BODIES) {
                return null;
            }
            return which == SECOND_BODY && depth[f] == 1 ? null : bodies[f * BODIES + which];
        }

        int depthOf(int letter) {
            int f = letter - LETTER_A;
            return f >= 0 && f < count ? depth[f] : 0;
        }
    }

    /** The tape, and the reading of texts from it. */
    private static final class Reader {
        final int[] tape = new int[TAPE_ROOM];
        final Term[] parts = new Term[BODIES];
        final Functions functions;
        int count;
        // Where reading stands; after a reading that failed, the fault position.
        int at;
        private int ownArity;
        private boolean ownAllowed;
        private boolean xAllowed;
        private boolean yAllowed;
        private boolean zAllowed;

        Reader(Functions functions) {
            this.functions = functions;
            for (int i = 0; i < BODIES; i++) {
                parts[i] = new Term();
            }
        }

        void put(int code) {
            if (count >= 0 && count < TAPE_ROOM) {
                tape[count] = code;
                count++;
            }
        }

        boolean readFunction(int arity, int depth) {
            at = 0;
            ownArity = arity;
            yAllowed = arity == 2;
            zAllowed = false;
            for (int i = 0; i <= depth && i < BODIES; i++) {
                ownAllowed = i == depth;
                xAllowed = i == depth;
                if (i > 0 && !pass(SEMICOLON)) {
                    return false;
                }
                if (!readTerm(parts[i], BODY_ROOM)) {
                    return false;
                }
            }
            return at == count;
        }

        boolean readClaim() {
            at = 0;
            ownAllowed = false;
            xAllowed = true;
            yAllowed = true;
            zAllowed = true;
            boolean fine = readTerm(parts[LEFT], SIDE_ROOM) && pass(EQUALS) && readTerm(parts[RIGHT], SIDE_ROOM);
            if (!fine || at != count) {
                return false;
            }
            parts[LEFT].close(functions.arguments);
            parts[RIGHT].close(functions.arguments);
            return true;
        }

        private boolean pass(int code) {
            if (at < 0 || at >= count || tape[at] != code) {
                return false;
            }
            at++;
            return true;
        }

        private boolean readTerm(Term term, int room) {
            term.empty();
            int open = 1;
            boolean behindOwn = false;
            for (int i = 0; i < room && open > 0; i++) {
                if (at < 0 || at >= count) {
                    return false;
                }
                int code = tape[at];
                int arguments = argumentsOf(code);
                if (arguments == NONE || (behindOwn && code != VARIABLE_X)) {
                    return false;
                }
                open += arguments - 1;
                // Every argument that is still open takes at least one symbol more.
                if (i + 1 + open > room) {
                    return false;
                }
                behindOwn = isOwn(code);
                term.add(code);
                at++;
            }
            return open == 0;
        }

        private boolean isOwn(int code) {
            return ownAllowed && code == LETTER_A + functions.count;
        }

        /** The number of arguments of a symbol, or NONE if it is not allowed here. */
        private int argumentsOf(int code) {
            int f = code - LETTER_A;
            if (f >= 0 && f < functions.count && f < FUNCTIONS) {
                return functions.arity[f];
            }
            if (isOwn(code)) {
                return ownArity;
            }
            switch (code) {
                case ZERO:
                    return 0;
                case SUCCESSOR:
                    return 1;
                case VARIABLE_X:
                    return xAllowed ? 0 : NONE;
                case VARIABLE_X + 1:
                    return yAllowed ? 0 : NONE;
                case VARIABLE_X + 2:
                    return zAllowed ? 0 : NONE;
                default:
                    return NONE;
            }
        }
    }

    /**
     * Computes values. Calls can nest too deeply for the machine's own stack, so frames are held in rows; a text is
     * read from its end, where the arguments of each symbol come before it.
     */
    private static final class Evaluator {
        private static final int FRAMES = MOST_WORK + 1;
        private static final int STACK = TERM_ROOM + MOST_WORK * BODY_ROOM;
        // Each frame takes a step for each symbol, and one for its end.
        private static final int MOST_STEPS = STACK + FRAMES + 1;

        final Functions functions;
        final int[] example = new int[VARIABLES];
        int work;
        private final Term[] text = new Term[FRAMES];
        private final int[] at = new int[FRAMES];
        private final int[] xs = new int[FRAMES];
        private final int[] ys = new int[FRAMES];
        private final int[] stack = new int[STACK];
        private int open;
        private int top;

        Evaluator(Functions functions) {
            this.functions = functions;
        }

        /** Tells whether the claim has a counterexample, and leaves it in the example. */
        boolean refutes(Claim claim) {
            int lastX = claim.has(0) ? GREATEST_TRIED : 0;
            int lastY = claim.has(1) ? GREATEST_TRIED : 0;
            int lastZ = claim.has(2) ? GREATEST_TRIED : 0;
            for (int x = 0; x <= lastX; x++) {
                for (int y = 0; y <= lastY; y++) {
                    for (int z = 0; z <= lastZ; z++) {
                        if (compare(claim, x, y, z) == 0) {
                            example[0] = x;
                            example[1] = y;
                            example[2] = z;
                            return true;
                        }
                    }
                }
            }
            return false;
        }

        /** For how many triples of small numbers the comparison has this answer. */
        int countTriples(Claim claim, int answer) {
            int lastX = claim.has(0) ? GREATEST_TESTED : 0;
            int lastY = claim.has(1) ? GREATEST_TESTED : 0;
            int lastZ = claim.has(2) ? GREATEST_TESTED : 0;
            int found = 0;
            for (int x = 0; x <= lastX; x++) {
                for (int y = 0; y <= lastY; y++) {
                    for (int z = 0; z <= lastZ; z++) {
                        found += compare(claim, x, y, z) == answer ? 1 : 0;
                    }
                }
            }
            // A variable that does not occur has been tried with one number only, and all of them answer the same.
            int all = GREATEST_TESTED + 1;
            return found * (lastX == 0 ? all : 1) * (lastY == 0 ? all : 1) * (lastZ == 0 ? all : 1);
        }

        /** 1 if both values are equal, 0 if they are different, NONE if one of them is not defined. */
        int compare(Claim claim, int x, int y, int z) {
            int left = valueOf(claim.left, x, y, z);
            if (left == NONE) {
                return NONE;
            }
            int right = valueOf(claim.right, x, y, z);
            if (right == NONE) {
                return NONE;
            }
            return left == right ? 1 : 0;
        }

        /** The value of a term, or NONE if it is not defined; counts the work. */
        int valueOf(Term term, int x, int y, int z) {
            work = 0;
            top = 0;
            open = 0;
            text[0] = term;
            at[0] = term.size;
            xs[0] = x;
            ys[0] = y;
            for (int step = 0; step < MOST_STEPS; step++) {
                if (at[open] <= 0 && open == 0) {
                    return top == 1 ? stack[0] : NONE;
                }
                if (at[open] <= 0) {
                    open--;
                    continue;
                }
                at[open]--;
                int symbol = text[open].code[at[open]];
                boolean defined = Term.isLetter(symbol) ? call(symbol - LETTER_A) : take(symbol, z);
                if (!defined) {
                    return NONE;
                }
            }
            return NONE;
        }

        private boolean take(int symbol, int z) {
            if (symbol == SUCCESSOR) {
                if (top < 1 || stack[top - 1] >= GREATEST_NUMBER) {
                    return false;
                }
                stack[top - 1]++;
                return true;
            }
            if (top < 0 || top >= STACK) {
                return false;
            }
            switch (symbol) {
                case VARIABLE_X:
                    stack[top] = xs[open];
                    break;
                case VARIABLE_X + 1:
                    stack[top] = ys[open];
                    break;
                case VARIABLE_X + 2:
                    stack[top] = z;
                    break;
                default:
                    stack[top] = 0;
                    break;
            }
            top++;
            return true;
        }

        private boolean call(int f) {
            if (f < 0 || f >= functions.count || work >= MOST_WORK || open + 1 >= FRAMES) {
                return false;
            }
            int depth = functions.depth[f];
            int arity = functions.arity[f];
            if (top < arity) {
                return false;
            }
            work++;
            top -= arity;
            int first = stack[top + arity - 1];
            Term body = functions.bodies[f * BODIES + (first >= depth ? LAST_BODY : Math.max(first, FIRST_BODY))];
            open++;
            text[open] = body;
            at[open] = body.size;
            xs[open] = first - depth;
            ys[open] = stack[top];
            return true;
        }
    }

    /**
     * Rewrites terms to normal forms. Terms are held as nodes that share their parts while this goes on; bodies are
     * read from their ends, with frames in rows, as values are computed.
     */
    private static final class Normalizer {
        private static final int FRAMES = MOST_BODIES + 1;
        private static final int STACK = TERM_ROOM + MOST_BODIES * BODY_ROOM;
        private static final int MOST_STEPS = STACK + FRAMES + 1;
        // The nodes of Z, x, y and z stand first and stay; two more may stand for a replaced variable.
        private static final int LEAVES = 1 + VARIABLES;
        private static final int NODES = LEAVES + 2 + STACK;

        final Functions functions;
        private final int[] symbol = new int[NODES];
        private final int[] first = new int[NODES];
        private final int[] second = new int[NODES];
        private final int[] weight = new int[NODES];
        private final Term[] text = new Term[FRAMES];
        private final int[] at = new int[FRAMES];
        private final int[] xs = new int[FRAMES];
        private final int[] ys = new int[FRAMES];
        private final int[] stack = new int[STACK];
        private final int[] meaning = new int[VARIABLES];
        private int nodes;
        private int open;
        private int top;
        private int used;

        Normalizer(Functions functions) {
            this.functions = functions;
            symbol[0] = ZERO;
            weight[0] = 1;
            for (int variable = 0; variable < VARIABLES; variable++) {
                symbol[1 + variable] = VARIABLE_X + variable;
                weight[1 + variable] = 1;
            }
        }

        /**
         * Writes the normal form of a term in which S, so many times, of Z or of the variable replaces the variable
         * (or NONE); false if this overflows. The result may be the term itself.
         */
        boolean rewrite(Term term, Term result, int variable, int times, boolean ofVariable) {
            nodes = LEAVES;
            for (int v = 0; v < VARIABLES; v++) {
                meaning[v] = 1 + v;
            }
            if (variable >= 0 && variable < VARIABLES) {
                int node = ofVariable ? 1 + variable : 0;
                for (int i = 0; i < times && node != NONE; i++) {
                    node = make(SUCCESSOR, node, node);
                }
                meaning[variable] = node;
            }
            if (!run(term)) {
                return false;
            }
            write(result);
            return true;
        }

        private boolean run(Term term) {
            used = 0;
            top = 0;
            open = 0;
            text[0] = term;
            at[0] = term.size;
            xs[0] = meaning[0];
            ys[0] = meaning[1];
            for (int step = 0; step < MOST_STEPS; step++) {
                if (at[open] <= 0 && open == 0) {
                    return top == 1;
                }
                if (at[open] <= 0) {
                    open--;
                    continue;
                }
                at[open]--;
                int next = text[open].code[at[open]];
                boolean fine = Term.isLetter(next) ? apply(next - LETTER_A) : take(next);
                if (!fine) {
                    return false;
                }
            }
            return false;
        }

        private boolean take(int next) {
            switch (next) {
                case SUCCESSOR:
                    if (top < 1) {
                        return false;
                    }
                    top--;
                    return push(make(SUCCESSOR, stack[top], stack[top]));
                case VARIABLE_X:
                    return push(xs[open]);
                case VARIABLE_X + 1:
                    return push(ys[open]);
                case VARIABLE_X + 2:
                    return push(meaning[2]);
                default:
                    return push(0);
            }
        }

        private boolean apply(int f) {
            if (f < 0 || f >= functions.count || top < functions.arity[f]) {
                return false;
            }
            int arity = functions.arity[f];
            top -= arity;
            int one = stack[top + arity - 1];
            int other = stack[top];
            int which = bodyFor(f, one);
            if (which == NONE) {
                return push(make(LETTER_A + f, one, other));
            }
            Term body = functions.bodyOf(f, which);
            used++;
            if (body == null || used > MOST_BODIES || open + 1 >= FRAMES) {
                return false;
            }
            open++;
            text[open] = body;
            at[open] = body.size;
            xs[open] = functions.depth[f] == 1 ? first[one] : first[first[one]];
            ys[open] = other;
            return true;
        }

        /** Which body the function has for this first argument, or NONE. */
        private int bodyFor(int f, int argument) {
            if (symbol[argument] == ZERO) {
                return FIRST_BODY;
            }
            if (symbol[argument] != SUCCESSOR) {
                return NONE;
            }
            if (functions.depth[f] == 1) {
                return LAST_BODY;
            }
            int inner = symbol[first[argument]];
            return inner == ZERO ? SECOND_BODY : inner == SUCCESSOR ? LAST_BODY : NONE;
        }

        /** A new node, or NONE if the term would be too long. */
        private int make(int newSymbol, int one, int other) {
            if (one < 0 || one >= nodes || other < 0 || other >= nodes || nodes >= NODES) {
                return NONE;
            }
            int total = 1 + weight[one] + (functions.arguments[newSymbol] == 2 ? weight[other] : 0);
            if (total > TERM_ROOM) {
                return NONE;
            }
            symbol[nodes] = newSymbol;
            first[nodes] = one;
            second[nodes] = other;
            weight[nodes] = total;
            nodes++;
            return nodes - 1;
        }

        private boolean push(int node) {
            if (node < 0 || node >= nodes || top < 0 || top >= STACK) {
                return false;
            }
            stack[top] = node;
            top++;
            return true;
        }

        /** Writes the term whose node is alone on the stack. */
        private void write(Term result) {
            result.empty();
            for (int i = 0; i < TERM_ROOM && top > 0; i++) {
                top--;
                int node = stack[top];
                int next = symbol[node];
                result.add(next);
                if (functions.arguments[next] == 2) {
                    push(second[node]);
                }
                if (functions.arguments[next] >= 1) {
                    push(first[node]);
                }
            }
            result.close(functions.arguments);
        }
    }

    /** Finds out how far a term is from a skeleton that it embeds. */
    private static final class Embedding {
        private static final int FAR = 1000000;

        // The smallest measure of each subterm of the term with each subterm of the skeleton.
        private final int[] best = new int[TERM_ROOM * TERM_ROOM];
        private final int[] depth = new int[TERM_ROOM];

        /** The difference, or NONE if the term does not embed the skeleton. */
        int smallest(Term term, Term skeleton) {
            if (skeleton.size < 1 || term.size < skeleton.size) {
                return NONE;
            }
            findDepths(term);
            for (int i = term.size - 1; i >= 0; i--) {
                for (int j = skeleton.size - 1; j >= 0; j--) {
                    best[i * TERM_ROOM + j] = smallestAt(term, i, skeleton, j);
                }
            }
            return best[0] >= FAR ? NONE : best[0];
        }

        private void findDepths(Term term) {
            depth[0] = 0;
            for (int i = 0; i + 1 < term.size; i++) {
                if (term.end[i] > i + 1) {
                    depth[i + 1] = depth[i] + 1;
                    int next = term.end[i + 1];
                    if (next < term.end[i]) {
                        depth[next] = depth[i] + 1;
                    }
                }
            }
        }

        /** Needs the entries of the later positions of the term. */
        private int smallestAt(Term term, int i, Term skeleton, int j) {
            int stop = term.end[i];
            int skeletonStop = skeleton.end[j];
            if (stop - i < skeletonStop - j) {
                return FAR;
            }
            boolean same = term.code[i] == skeleton.code[j];
            if (stop <= i + 1) {
                return same ? 0 : FAR;
            }
            int next = term.end[i + 1];
            boolean binary = next < stop;
            int inner = best[(i + 1) * TERM_ROOM + j];
            if (binary) {
                inner = Math.min(inner, best[next * TERM_ROOM + j]);
            }
            int least = inner + depth[i];
            if (same) {
                int both = best[(i + 1) * TERM_ROOM + j + 1];
                if (binary) {
                    both += best[next * TERM_ROOM + skeleton.end[j + 1]];
                }
                least = Math.min(least, both);
            }
            return Math.min(least, FAR);
        }
    }

    /** Matches patterns, and replaces what they matched. */
    private static final class Matcher {
        final Functions functions;
        // Where in the subject the term of each variable begins, or NONE.
        private final int[] start = new int[VARIABLES];

        Matcher(Functions functions) {
            this.functions = functions;
        }

        /** Tells whether a pattern matches the subterm at a position; the fixed variable (or NONE) matches only itself. */
        boolean matches(Term pattern, Term subject, int position, int fixed) {
            start[0] = NONE;
            start[1] = NONE;
            start[2] = NONE;
            int at = position;
            for (int i = 0; i < pattern.size; i++) {
                if (at < 0 || at >= subject.size) {
                    return false;
                }
                int symbol = pattern.code[i];
                int variable = symbol - VARIABLE_X;
                if (variable < 0 || variable >= VARIABLES || variable == fixed) {
                    if (symbol != subject.code[at]) {
                        return false;
                    }
                    at++;
                } else {
                    if (start[variable] == NONE) {
                        start[variable] = at;
                    } else if (!subject.isSameAt(start[variable], subject, at)) {
                        return false;
                    }
                    at = subject.end[at];
                }
            }
            return true;
        }

        int firstMatch(Term pattern, Term subject, int fixed) {
            for (int i = 0; i < subject.size; i++) {
                if (matches(pattern, subject, i, fixed)) {
                    return i;
                }
            }
            return NONE;
        }

        /** Writes the subject with another term in the place of the latest match; false if it gets too long. */
        boolean replace(Term other, Term subject, int position, Term result) {
            if (position < 0 || position >= subject.size) {
                return false;
            }
            result.empty();
            boolean fits = result.addRange(subject, 0, position);
            for (int i = 0; i < other.size && fits; i++) {
                int symbol = other.code[i];
                int variable = symbol - VARIABLE_X;
                int from = variable >= 0 && variable < VARIABLES ? start[variable] : NONE;
                fits = from >= 0 && from < subject.size
                        ? result.addRange(subject, from, subject.end[from]) : result.add(symbol);
            }
            fits = fits && result.addRange(subject, subject.end[position], subject.size);
            if (fits) {
                result.close(functions.arguments);
            }
            return fits;
        }
    }

    /** The lemmas, and rippling with them. */
    private static final class Lemmas {
        final Claim[] list = new Claim[LEMMAS];
        int count;
        private final Embedding embedding;
        private final Matcher matcher;
        private final Term next = new Term();

        Lemmas(Embedding embedding, Matcher matcher) {
            this.embedding = embedding;
            this.matcher = matcher;
            for (int k = 0; k < LEMMAS; k++) {
                list[k] = new Claim();
            }
        }

        void keep(Claim claim) {
            if (claim.isTrivial() || count < 0 || count >= LEMMAS) {
                return;
            }
            for (int k = 0; k < count; k++) {
                if (list[k].isSame(claim)) {
                    return;
                }
            }
            list[count].copy(claim);
            count++;
        }

        /** Does one step; tells 100 * lemma + direction, or NONE if no step is possible. */
        int ripple(Term term, Term skeleton) {
            int now = embedding.smallest(term, skeleton);
            for (int i = 0; i < term.size && now > 0; i++) {
                for (int k = 0; k < count && k < LEMMAS; k++) {
                    for (int direction = 0; direction <= 1; direction++) {
                        if (!rewrites(term, i, list[k], direction)) {
                            continue;
                        }
                        int then = embedding.smallest(next, skeleton);
                        if (then != NONE && then < now) {
                            term.copy(next);
                            return 100 * k + direction;
                        }
                    }
                }
            }
            return NONE;
        }

        /** Tells whether a lemma can be used at a position, and leaves the new term. */
        private boolean rewrites(Term term, int position, Claim lemma, int direction) {
            Term from = lemma.part(direction);
            Term to = lemma.part(1 - direction);
            return matcher.matches(from, term, position, NONE) && isUsable(from, to)
                    && matcher.replace(to, term, position, next);
        }

        private static boolean isUsable(Term from, Term to) {
            if (from.size == 1 && from.code[0] >= VARIABLE_X) {
                return false;
            }
            for (int variable = 0; variable < VARIABLES; variable++) {
                if (to.has(VARIABLE_X + variable) && !from.has(VARIABLE_X + variable)) {
                    return false;
                }
            }
            return true;
        }
    }

    /** The script of the latest attempt, and why it did not succeed. */
    private static final class Notes {
        final int[] kind = new int[NOTES];
        final int[] number = new int[NOTES];
        final int[] cause = new int[CAUSES];
        int count;
        int causes;

        void empty() {
            count = 0;
            causes = 0;
        }

        void write(int newKind, int newNumber) {
            if (count >= 0 && count < NOTES) {
                kind[count] = newKind;
                number[count] = newNumber;
                count++;
            }
        }

        /** The innermost failure comes first, and each level around it fails then, too. */
        void blame(int place, int failure) {
            if (place >= 0 && place < CAUSES) {
                cause[place] = failure;
                causes = Math.max(causes, place + 1);
            }
        }
    }

    /** Makes attempts. Each level has its own claims: as it began, normalized, and the goal of a case. */
    private static final class Prover {
        final Claim[] start = new Claim[LEVELS];
        private final Claim[] claims = new Claim[LEVELS];
        private final Claim[] goals = new Claim[LEVELS];
        private final Term draft = new Term();
        private final Functions functions;
        private final Evaluator evaluator;
        private final Normalizer normalizer;
        private final Matcher matcher;
        private final Lemmas lemmas;
        private final Notes notes;

        Prover(Functions functions, Evaluator evaluator, Normalizer normalizer, Matcher matcher, Lemmas lemmas,
                Notes notes) {
            this.functions = functions;
            this.evaluator = evaluator;
            this.normalizer = normalizer;
            this.matcher = matcher;
            this.lemmas = lemmas;
            this.notes = notes;
            for (int level = 0; level < LEVELS; level++) {
                start[level] = new Claim();
                claims[level] = new Claim();
                goals[level] = new Claim();
            }
        }

        /** Attempts to prove the claim with which the level starts; tells the kind of failure, or PROVED. */
        private int attempt(int level) {
            if (level < 0 || level >= LEVELS) {
                return STUCK;
            }
            notes.write(0, level);
            if (evaluator.refutes(start[level])) {
                return fail(level, REFUTED);
            }
            Claim claim = claims[level];
            if (!normalize(start[level], claim, NONE, 0, false)) {
                return OVERFLOW;
            }
            if (claim.isTrivial()) {
                notes.write(1, 0);
                return succeed(level);
            }
            int variable = claim.inductionVariable(functions);
            if (variable == NONE) {
                return fail(level, STUCK);
            }
            int depth = claim.deepestCall(variable, functions);
            notes.write(2, 10 * depth + variable);
            for (int number = 0; number <= depth; number++) {
                int kind = proveCase(level, number, variable, depth);
                if (kind == OVERFLOW) {
                    return OVERFLOW;
                }
                if (kind != PROVED) {
                    return fail(level, STUCK);
                }
            }
            return succeed(level);
        }

        private int proveCase(int level, int number, int variable, int depth) {
            notes.write(3, number);
            boolean last = number == depth;
            Claim claim = claims[level];
            Claim goal = goals[level];
            if (!normalize(claim, goal, variable, number, last)) {
                return OVERFLOW;
            }
            if (goal.isTrivial()) {
                return PROVED;
            }
            if (last) {
                ripple(claim.left, goal.left, LEFT);
                ripple(claim.right, goal.right, RIGHT);
                if (!useClaim(claim, goal, variable) || !normalize(goal, goal, NONE, 0, false)) {
                    return OVERFLOW;
                }
                if (goal.isTrivial()) {
                    return PROVED;
                }
            }
            if (level + 1 >= LEVELS) {
                notes.blame(level + 1, DEPTH);
                return STUCK;
            }
            notes.write(6, guess(goal, start[level + 1]));
            return attempt(level + 1);
        }

        /** Normalizes both sides, with the variable (or NONE) replaced; false if this overflows. */
        private boolean normalize(Claim claim, Claim result, int variable, int times, boolean ofVariable) {
            return normalizer.rewrite(claim.left, result.left, variable, times, ofVariable)
                    && normalizer.rewrite(claim.right, result.right, variable, times, ofVariable);
        }

        private void ripple(Term skeleton, Term term, int which) {
            for (int step = 0; step < MOST_RIPPLES; step++) {
                int use = lemmas.ripple(term, skeleton);
                if (use == NONE) {
                    return;
                }
                notes.write(4, use + 10 * which);
            }
        }

        /** Uses the claim once, if it matches; false if the goal gets too long. */
        private boolean useClaim(Claim claim, Claim goal, int variable) {
            for (int which = LEFT; which <= RIGHT; which++) {
                Term target = goal.part(which);
                int position = matcher.firstMatch(claim.part(which), target, variable);
                if (position == NONE) {
                    continue;
                }
                if (!matcher.replace(claim.part(RIGHT - which), target, position, draft)) {
                    return false;
                }
                target.copy(draft);
                notes.write(5, which);
                return true;
            }
            return true;
        }

        /** Writes the guess for a goal; tells the variable that was introduced, or NONE. */
        private int guess(Claim goal, Claim result) {
            int variable = goal.generalize(result, functions);
            if (variable != NONE && evaluator.refutes(result)) {
                result.copy(goal);
                return NONE;
            }
            return variable;
        }

        private int fail(int level, int kind) {
            notes.write(8, kind);
            notes.blame(level, kind);
            return kind;
        }

        private int succeed(int level) {
            notes.write(7, level);
            lemmas.keep(start[level]);
            return PROVED;
        }
    }
}
