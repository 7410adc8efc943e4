import java.util.ArrayList;
import java.util.Arrays;
import java.util.HashMap;
import java.util.List;
import java.util.Map;
import java.util.Objects;

/** The document once more, written with trees and recursion and as naively as possible, to compare answers with. */
final class Model {
    static final int UNKNOWN = -1, OUTSIDE = -2, STATE = -3, FULL = -4, NONE = -9;

    static final class Overflow extends RuntimeException {
        private static final long serialVersionUID = 1;
    }

    static final class Undefined extends RuntimeException {
        private static final long serialVersionUID = 1;
    }

    record Tree(char head, List<Tree> args) {
        int size() {
            return 1 + args.stream().mapToInt(Tree::size).sum();
        }

        String text() {
            StringBuilder b = new StringBuilder().append(head);
            args.forEach(a -> b.append(a.text()));
            return b.toString();
        }

        boolean isVariable() {
            return head >= 'x' && head <= 'z';
        }

        boolean isFunction() {
            return head >= 'a' && head <= 'f';
        }

        /** All subterms in the order of their positions. */
        List<Tree> subterms() {
            List<Tree> all = new ArrayList<>();
            all.add(this);
            args.forEach(a -> all.addAll(a.subterms()));
            return all;
        }

        Tree replaceAt(int position, Tree other) {
            if (position == 0) {
                return other;
            }
            List<Tree> changed = new ArrayList<>(args);
            int at = 1;
            for (int i = 0; i < args.size(); i++) {
                int size = args.get(i).size();
                if (position >= at && position < at + size) {
                    changed.set(i, args.get(i).replaceAt(position - at, other));
                }
                at += size;
            }
            return new Tree(head, changed);
        }

        Tree replaceAll(Tree what, Tree other) {
            return equals(what) ? other : new Tree(head, args.stream().map(a -> a.replaceAll(what, other)).toList());
        }

        Tree substitute(Map<Character, Tree> terms) {
            if (isVariable()) {
                return terms.getOrDefault(head, this);
            }
            return new Tree(head, args.stream().map(a -> a.substitute(terms)).toList());
        }

        boolean has(char symbol) {
            return subterms().stream().anyMatch(t -> t.head == symbol);
        }
    }

    record Function(int arity, int depth, Tree[] bodies) {
    }

    record Equation(Tree left, Tree right) {
        Tree side(int which) {
            return which == 0 ? left : right;
        }

        boolean has(char symbol) {
            return left.has(symbol) || right.has(symbol);
        }

        boolean trivial() {
            return left.equals(right);
        }
    }

    private final List<Integer> tape = new ArrayList<>();
    private final List<Function> functions = new ArrayList<>();
    private final List<Equation> lemmas = new ArrayList<>();
    private final List<int[]> notes = new ArrayList<>();
    private List<Integer> causes = new ArrayList<>();
    private Equation claim;
    private int work;
    private int bodiesUsed;

    // ---- texts: a tape's prefix is tried against the grammar, code by code

    private int arityOf(char c, int ownArity) {
        int f = c - 'a';
        return c == 'S' ? 1 : f == functions.size() && ownArity > 0 ? ownArity : f >= 0 && f < functions.size() ? functions.get(f).arity : 0;
    }

    /** Walks over the codes; the parts' limits and alphabets are given; answers the fault position or -1. */
    private int fault(int parts, int limit, char separator, int arity, boolean ofFunction) {
        int part = 0, size = 0, open = 1;
        boolean needX = false;
        char own = (char) ('a' + functions.size());
        for (int p = 0; p < tape.size(); p++) {
            char c = (char) (int) tape.get(p);
            boolean last = part == parts - 1;
            if (open == 0) {
                if (last || c != separator) {
                    return p;
                }
                part++;
                size = 0;
                open = 1;
                continue;
            }
            String alphabet = "ZS" + "abcdef".substring(0, functions.size());
            if (!ofFunction) {
                alphabet += "xyz";
            } else {
                alphabet += (arity == 2 ? "y" : "") + (last ? "x" + own : "");
            }
            if (needX ? c != 'x' : alphabet.indexOf(c) < 0) {
                return p;
            }
            open += arityOf(c, ofFunction ? arity : 0) - 1;
            size++;
            if (size + open > limit) {
                return p;
            }
            needX = ofFunction && c == own;
        }
        return part == parts - 1 && open == 0 ? -1 : tape.size();
    }

    private int cursor;

    private Tree parse(int ownArity) {
        char c = (char) (int) tape.get(cursor++);
        List<Tree> args = new ArrayList<>();
        for (int i = arityOf(c, ownArity); i > 0; i--) {
            args.add(parse(ownArity));
        }
        return new Tree(c, List.copyOf(args));
    }

    int type(int code) {
        if (code < 0 || code > 127) {
            return OUTSIDE;
        }
        if (tape.size() == 48) {
            return FULL;
        }
        tape.add(code);
        return tape.size();
    }

    int wipe() {
        int n = tape.size();
        tape.clear();
        return n;
    }

    int function(int arity, int depth) {
        if (arity != 1 && arity != 2 || depth != 1 && depth != 2) {
            return OUTSIDE;
        }
        if (functions.size() == 6) {
            return FULL;
        }
        int fault = fault(depth + 1, 10, ';', arity, true);
        if (fault >= 0) {
            return -100 - fault;
        }
        Tree[] bodies = new Tree[3];
        cursor = 0;
        for (int i = 0; i <= depth; i++) {
            bodies[i == depth ? 2 : i] = parse(arity);
            cursor++;
        }
        functions.add(new Function(arity, depth, bodies));
        return functions.size() - 1;
    }

    int ofFunction(int f, int what) {
        if (f < 0 || f >= functions.size()) {
            return UNKNOWN;
        }
        if (what < 0 || what > 4) {
            return OUTSIDE;
        }
        Function g = functions.get(f);
        if (what < 2) {
            return what == 0 ? g.arity : g.depth;
        }
        return g.bodies[what - 2] == null ? NONE : g.bodies[what - 2].size();
    }

    private static int at(Tree t, int i) {
        return i == NONE ? t.size() : i < t.size() ? t.text().charAt(i) : NONE;
    }

    int body(int f, int which, int i) {
        if (f < 0 || f >= functions.size()) {
            return UNKNOWN;
        }
        if (which < 0 || which > 2 || i < 0 || i > 9) {
            return OUTSIDE;
        }
        Tree t = functions.get(f).bodies[which];
        return t == null ? NONE : at(t, i);
    }

    int claim() {
        int fault = fault(2, 20, '=', 0, false);
        if (fault >= 0) {
            return -100 - fault;
        }
        cursor = 0;
        Tree left = parse(0);
        cursor++;
        claim = new Equation(left, parse(0));
        return left.size() + claim.right.size();
    }

    int side(int which, int i) {
        if (which < 0 || which > 1 || i < 0 || i > 19) {
            return OUTSIDE;
        }
        return claim == null ? STATE : at(claim.side(which), i);
    }

    int anew() {
        int n = functions.size();
        functions.clear();
        lemmas.clear();
        notes.clear();
        causes.clear();
        claim = null;
        return n;
    }

    // ---- values

    private int eval(Tree t, int x, int y, int z) {
        int[] v = t.args.stream().mapToInt(a -> eval(a, x, y, z)).toArray();
        int result;
        if (t.head == 'Z') {
            result = 0;
        } else if (t.head == 'S') {
            result = v[0] + 1;
        } else if (t.isVariable()) {
            result = t.head == 'x' ? x : t.head == 'y' ? y : z;
        } else {
            if (++work > 60) {
                throw new Undefined();
            }
            Function g = functions.get(t.head - 'a');
            int second = g.arity == 2 ? v[1] : 0;
            result = v[0] == 0 ? eval(g.bodies[0], 0, second, 0)
                    : g.depth == 1 ? eval(g.bodies[2], v[0] - 1, second, 0)
                    : v[0] == 1 ? eval(g.bodies[1], 0, second, 0) : eval(g.bodies[2], v[0] - 2, second, 0);
        }
        if (result > 99) {
            throw new Undefined();
        }
        return result;
    }

    private Integer valueOf(Tree t, int x, int y, int z) {
        work = 0;
        try {
            return eval(t, x, y, z);
        } catch (Undefined u) {
            return null;
        }
    }

    private static Tree leaf(char c) {
        return new Tree(c, List.of());
    }

    int value(int f, int m, int n, int what) {
        if (f < 0 || f >= functions.size()) {
            return UNKNOWN;
        }
        boolean two = functions.get(f).arity == 2;
        if (m < 0 || m > 9 || two && (n < 0 || n > 9) || what < 0 || what > 1) {
            return OUTSIDE;
        }
        List<Tree> args = two ? List.of(leaf('x'), leaf('y')) : List.of(leaf('x'));
        Integer v = valueOf(new Tree((char) ('a' + f), args), m, n, 0);
        return v == null ? NONE : what == 0 ? v : work;
    }

    private int compare(Equation e, int x, int y, int z) {
        Integer a = valueOf(e.left, x, y, z);
        Integer b = valueOf(e.right, x, y, z);
        return a == null || b == null ? NONE : a.equals(b) ? 1 : 0;
    }

    int holds(int x, int y, int z) {
        for (int n : new int[] {x, y, z}) {
            if (n < 0 || n > 5) {
                return OUTSIDE;
            }
        }
        return claim == null ? STATE : compare(claim, x, y, z);
    }

    private int[] counterexample(Equation e) {
        for (int n = 0; n < 27; n++) {
            int[] t = {n / 9, n / 3 % 3, n % 3};
            boolean allowed = true;
            for (int v = 0; v < 3; v++) {
                allowed &= t[v] == 0 || e.has((char) ('x' + v));
            }
            if (allowed && compare(e, t[0], t[1], t[2]) == 0) {
                return t;
            }
        }
        return null;
    }

    int counter(int v) {
        if (v < 0 || v > 2) {
            return OUTSIDE;
        }
        if (claim == null) {
            return STATE;
        }
        int[] t = counterexample(claim);
        return t == null ? NONE : t[v];
    }

    // ---- normal forms: bodies are really written out, with the terms in them, and normalized anew

    private Tree nf(Tree t) {
        Tree u = new Tree(t.head, t.args.stream().map(this::nf).toList());
        Tree result = u;
        if (u.isFunction()) {
            Function g = functions.get(u.head - 'a');
            Tree a = u.args.get(0);
            Tree body = null, x = null;
            if (a.head == 'Z') {
                body = g.bodies[0];
            } else if (a.head == 'S') {
                Tree b = a.args.get(0);
                if (g.depth == 1) {
                    body = g.bodies[2];
                    x = b;
                } else if (b.head == 'Z') {
                    body = g.bodies[1];
                } else if (b.head == 'S') {
                    body = g.bodies[2];
                    x = b.args.get(0);
                }
            }
            if (body != null) {
                if (++bodiesUsed > 50) {
                    throw new Overflow();
                }
                Map<Character, Tree> terms = new HashMap<>();
                if (x != null) {
                    terms.put('x', x);
                }
                if (g.arity == 2) {
                    terms.put('y', u.args.get(1));
                }
                result = nf(body.substitute(terms));
            }
        }
        if (result.size() > 40) {
            throw new Overflow();
        }
        return result;
    }

    private Tree normalForm(Tree t) {
        bodiesUsed = 0;
        return nf(t);
    }

    private Equation normalForm(Equation e) {
        return new Equation(normalForm(e.left), normalForm(e.right));
    }

    private static boolean noPlace(int i, int last) {
        return i != NONE && (i < 0 || i > last);
    }

    int normal(int which, int i) {
        if (which < 0 || which > 1 || noPlace(i, 39)) {
            return OUTSIDE;
        }
        if (claim == null) {
            return STATE;
        }
        try {
            return at(normalForm(claim.side(which)), i);
        } catch (Overflow o) {
            return STATE;
        }
    }

    // ---- the induction variable: number, depth, calls

    private int[] schemeOf(Equation e) {
        int[] best = null;
        for (int v = 0; v < 3; v++) {
            int calls = 0, depth = 0;
            for (Tree side : List.of(e.left, e.right)) {
                for (Tree t : side.subterms()) {
                    if (t.isFunction() && t.args.get(0).head == 'x' + v) {
                        calls++;
                        depth = Math.max(depth, functions.get(t.head - 'a').depth);
                    }
                }
            }
            if (calls > 0 && (best == null || calls > best[2] || calls == best[2] && depth < best[1])) {
                best = new int[] {v, depth, calls};
            }
        }
        return best;
    }

    int scheme(int what) {
        if (what < 0 || what > 2) {
            return OUTSIDE;
        }
        if (claim == null) {
            return STATE;
        }
        int[] s = schemeOf(claim);
        return s == null ? NONE : s[what];
    }

    // ---- embedding, rippling

    private Integer measure(Tree t, Tree k, int depth, Map<List<Object>, Integer> seen) {
        List<Object> key = List.of(System.identityHashCode(t), System.identityHashCode(k), depth, t, k);
        if (seen.containsKey(key)) {
            int known = seen.get(key);
            return known < 0 ? null : known;
        }
        Integer best = null;
        if (t.head == k.head) {
            int sum = 0;
            boolean all = true;
            for (int i = 0; i < t.args.size() && all; i++) {
                Integer m = measure(t.args.get(i), k.args.get(i), depth + 1, seen);
                all = m != null;
                sum += all ? m : 0;
            }
            best = all ? sum : null;
        }
        for (Tree a : t.args) {
            Integer m = measure(a, k, depth + 1, seen);
            if (m != null && (best == null || m + depth < best)) {
                best = m + depth;
            }
        }
        seen.put(key, best == null ? -1 : best);
        return best;
    }

    private Integer differenceOf(Tree t, Tree k) {
        return measure(t, k, 0, new HashMap<>());
    }

    int difference() {
        if (claim == null) {
            return STATE;
        }
        Integer d = differenceOf(claim.left, claim.right);
        return d == null ? NONE : d;
    }

    private static boolean match(Tree pattern, Tree t, Map<Character, Tree> terms, char fixed) {
        if (pattern.isVariable() && pattern.head != fixed) {
            Tree old = terms.putIfAbsent(pattern.head, t);
            return old == null || old.equals(t);
        }
        if (pattern.head != t.head) {
            return false;
        }
        for (int i = 0; i < t.args.size(); i++) {
            if (!match(pattern.args.get(i), t.args.get(i), terms, fixed)) {
                return false;
            }
        }
        return true;
    }

    private Tree ripple(Tree t, Tree skeleton, List<Integer> uses) {
        for (boolean again = true; again;) {
            again = false;
            int now = Objects.requireNonNull(differenceOf(t, skeleton));
            List<Tree> parts = t.subterms();
            search:
            for (int p = 0; p < parts.size(); p++) {
                for (int k = 0; k < lemmas.size(); k++) {
                    for (int dir = 0; dir < 2; dir++) {
                        Tree from = lemmas.get(k).side(dir), to = lemmas.get(k).side(1 - dir);
                        boolean usable = !from.isVariable();
                        for (char v : "xyz".toCharArray()) {
                            usable &= from.has(v) || !to.has(v);
                        }
                        Map<Character, Tree> terms = new HashMap<>();
                        if (!usable || !match(from, parts.get(p), terms, ' ')) {
                            continue;
                        }
                        Tree next = t.replaceAt(p, to.substitute(terms));
                        Integer then = differenceOf(next, skeleton);
                        if (next.size() <= 40 && then != null && then < now) {
                            uses.add(100 * k + dir);
                            t = next;
                            again = true;
                            break search;
                        }
                    }
                }
            }
        }
        return t;
    }

    int steered(int i) {
        if (noPlace(i, 39)) {
            return OUTSIDE;
        }
        if (claim == null || differenceOf(claim.left, claim.right) == null) {
            return STATE;
        }
        return at(ripple(claim.left, claim.right, new ArrayList<>()), i);
    }

    // ---- generalization

    private static Tree commonOf(Equation e) {
        Tree best = null;
        List<Tree> right = e.right.subterms();
        for (Tree t : e.left.subterms()) {
            if (t.isFunction() && right.contains(t) && (best == null || t.size() > best.size())) {
                best = t;
            }
        }
        return best;
    }

    int common(int i) {
        if (noPlace(i, 19)) {
            return OUTSIDE;
        }
        if (claim == null) {
            return STATE;
        }
        Tree t = commonOf(claim);
        return t == null ? NONE : at(t, i);
    }

    private static char fresh(Equation e) {
        for (char v : "xyz".toCharArray()) {
            if (!e.has(v)) {
                return v;
            }
        }
        return ' ';
    }

    private static Equation generalOf(Equation e) {
        Tree t = commonOf(e);
        char v = fresh(e);
        return t == null || v == ' ' ? e : new Equation(e.left.replaceAll(t, leaf(v)), e.right.replaceAll(t, leaf(v)));
    }

    int general(int which, int i) {
        if (which < 0 || which > 1 || noPlace(i, 19)) {
            return OUTSIDE;
        }
        return claim == null ? STATE : at(generalOf(claim).side(which), i);
    }

    // ---- attempts: an attempt answers its chain of kinds, empty if it succeeded

    private void note(int kind, int number) {
        notes.add(new int[] {kind, number});
    }

    private List<Integer> failed(int kind, List<Integer> cause) {
        note(8, kind);
        List<Integer> chain = new ArrayList<>(List.of(kind));
        chain.addAll(cause);
        return chain;
    }

    private List<Integer> proved(int level, Equation e) {
        note(7, level);
        if (!e.trivial() && !lemmas.contains(e) && lemmas.size() < 8) {
            lemmas.add(e);
        }
        return List.of();
    }

    private List<Integer> attempt(Equation given, int level) {
        note(0, level);
        if (counterexample(given) != null) {
            return failed(1, List.of());
        }
        Equation e = normalForm(given);
        if (e.trivial()) {
            note(1, 0);
            return proved(level, given);
        }
        int[] s = schemeOf(e);
        if (s == null) {
            return failed(2, List.of());
        }
        char v = (char) ('x' + s[0]);
        note(2, 10 * s[1] + s[0]);
        for (int c = 0; c <= s[1]; c++) {
            note(3, c);
            Tree by = leaf(c == s[1] ? v : 'Z');
            for (int i = 0; i < c; i++) {
                by = new Tree('S', List.of(by));
            }
            Map<Character, Tree> map = Map.of(v, by);
            Equation goal = normalForm(new Equation(e.left.substitute(map), e.right.substitute(map)));
            if (goal.trivial()) {
                continue;
            }
            if (c == s[1]) {
                goal = normalForm(useClaim(rippled(goal, e), e, v));
                if (goal.trivial()) {
                    continue;
                }
            }
            if (level == 2) {
                return failed(2, List.of(4));
            }
            Equation guess = generalOf(goal);
            if (guess.equals(goal) || counterexample(guess) != null) {
                guess = goal;
                note(6, NONE);
            } else {
                note(6, fresh(goal) - 'x');
            }
            List<Integer> cause = attempt(guess, level + 1);
            if (!cause.isEmpty()) {
                return failed(2, cause);
            }
        }
        return proved(level, given);
    }

    private Equation rippled(Equation goal, Equation e) {
        Tree[] sides = new Tree[2];
        for (int which = 0; which < 2; which++) {
            sides[which] = goal.side(which);
            if (differenceOf(sides[which], e.side(which)) != null) {
                List<Integer> uses = new ArrayList<>();
                sides[which] = ripple(sides[which], e.side(which), uses);
                for (int use : uses) {
                    note(4, use + 10 * which);
                }
            }
        }
        return new Equation(sides[0], sides[1]);
    }

    private Equation useClaim(Equation goal, Equation e, char v) {
        for (int which = 0; which < 2; which++) {
            Tree side = goal.side(which);
            List<Tree> parts = side.subterms();
            for (int p = 0; p < parts.size(); p++) {
                Map<Character, Tree> terms = new HashMap<>();
                if (match(e.side(which), parts.get(p), terms, v)) {
                    Tree changed = side.replaceAt(p, e.side(1 - which).substitute(terms));
                    if (changed.size() > 40) {
                        throw new Overflow();
                    }
                    note(5, which);
                    return which == 0 ? new Equation(changed, goal.right) : new Equation(goal.left, changed);
                }
            }
        }
        return goal;
    }

    int prove() {
        if (claim == null) {
            return STATE;
        }
        notes.clear();
        try {
            causes = new ArrayList<>(attempt(claim, 0));
        } catch (Overflow o) {
            causes = new ArrayList<>(List.of(3));
        }
        return causes.isEmpty() ? 0 : causes.get(0);
    }

    int why(int k) {
        return k < 0 || k > 9 ? OUTSIDE : k < causes.size() ? causes.get(k) : NONE;
    }

    int script(int k, int what) {
        return k < 0 || k > 98 || what < 0 || what > 1 ? OUTSIDE : k < notes.size() ? notes.get(k)[what] : NONE;
    }

    int lemma(int k, int which, int i) {
        if (k < 0 || k >= lemmas.size()) {
            return UNKNOWN;
        }
        return which < 0 || which > 1 || noPlace(i, 39) ? OUTSIDE : at(lemmas.get(k).side(which), i);
    }

    int tested(int k, int what) {
        if (k < 0 || k >= lemmas.size()) {
            return UNKNOWN;
        }
        if (what < 0 || what > 2) {
            return OUTSIDE;
        }
        int[] counts = new int[3];
        for (int n = 0; n < 64; n++) {
            int c = compare(lemmas.get(k), n / 16, n / 4 % 4, n % 4);
            counts[c == 1 ? 0 : c == 0 ? 1 : 2]++;
        }
        return counts[what];
    }

    int back() {
        if (lemmas.isEmpty()) {
            return STATE;
        }
        lemmas.remove(lemmas.size() - 1);
        return lemmas.size();
    }

    int many(int what) {
        return what < 0 || what > 3 ? OUTSIDE
                : Arrays.asList(functions.size(), lemmas.size(), tape.size(), Math.min(99, notes.size())).get(what);
    }
}
