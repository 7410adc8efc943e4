import java.util.ArrayList;
import java.util.List;

/**
 * The arguments of all methods: the last values that are allowed and the first ones that are not, on both sides of
 * each range; which error comes first if several apply; that a call which is refused changes nothing; and that NONE
 * comes after all errors.
 */
public final class RangeTest extends Checks {
    /** A method with its arguments; arguments that are all fine, and the answer then. */
    record Method(int promise, String name, Asked asked, Argument[] arguments, int[] fine) {
        String written(int[] values) {
            StringBuilder b = new StringBuilder(name).append('(');
            for (int i = 0; i < values.length; i++) {
                b.append(i == 0 ? "" : ", ").append(values[i]);
            }
            return b.append(')').toString();
        }
    }

    interface Asked {
        int on(Subject s, int[] arguments);
    }

    /** The range of an argument, and the error if it is outside; NONE may be allowed besides. */
    record Argument(int least, int greatest, boolean orNone, int error) {
        int[] wrong() {
            List<Integer> all = new ArrayList<>(List.of(least - 1, greatest + 1, LEAST, GREATEST));
            if (orNone) {
                all.addAll(List.of(NONE - 1, NONE + 1));
            } else if (NONE < least) {
                all.add(NONE);
            }
            return all.stream().mapToInt(Integer::intValue).toArray();
        }

        int[] right() {
            return orNone ? new int[] {least, greatest, NONE} : new int[] {least, greatest};
        }
    }

    private static Argument range(int least, int greatest) {
        return new Argument(least, greatest, false, OUTSIDE);
    }

    private static Argument place(int greatest) {
        return new Argument(0, greatest, true, OUTSIDE);
    }

    private static Argument known(int count) {
        return new Argument(0, count - 1, false, UNKNOWN);
    }

    private static Argument[] all(Argument... arguments) {
        return arguments;
    }

    private static int[] fine(int... values) {
        return values;
    }

    // Of the rich object: four functions, two lemmas.
    private static final Method[] METHODS = {
        new Method(5, "ofFunction", (s, a) -> s.ofFunction(a[0], a[1]), all(known(4), range(0, 4)), fine(1, 2)),
        new Method(6, "body", (s, a) -> s.body(a[0], a[1], a[2]), all(known(4), range(0, 2), range(0, 9)), fine(1, 2, 1)),
        new Method(8, "side", (s, a) -> s.side(a[0], a[1]), all(range(0, 1), range(0, 19)), fine(1, 2)),
        new Method(10, "value", (s, a) -> s.value(a[0], a[1], a[2], a[3]),
                all(known(4), range(0, 9), range(0, 9), range(0, 1)), fine(0, 2, 3, 1)),
        new Method(11, "holds", (s, a) -> s.holds(a[0], a[1], a[2]), all(range(0, 5), range(0, 5), range(0, 5)),
                fine(1, 2, 3)),
        new Method(12, "counter", (s, a) -> s.counter(a[0]), all(range(0, 2)), fine(1)),
        new Method(13, "normal", (s, a) -> s.normal(a[0], a[1]), all(range(0, 1), place(39)), fine(1, 2)),
        new Method(14, "scheme", (s, a) -> s.scheme(a[0]), all(range(0, 2)), fine(1)),
        new Method(16, "steered", (s, a) -> s.steered(a[0]), all(place(39)), fine(1)),
        new Method(17, "common", (s, a) -> s.common(a[0]), all(place(19)), fine(1)),
        new Method(18, "general", (s, a) -> s.general(a[0], a[1]), all(range(0, 1), place(19)), fine(1, 2)),
        new Method(20, "why", (s, a) -> s.why(a[0]), all(range(0, 9)), fine(1)),
        new Method(21, "script", (s, a) -> s.script(a[0], a[1]), all(range(0, 98), range(0, 1)), fine(1, 1)),
        new Method(22, "lemma", (s, a) -> s.lemma(a[0], a[1], a[2]), all(known(2), range(0, 1), place(39)), fine(1, 1, 2)),
        new Method(23, "tested", (s, a) -> s.tested(a[0], a[1]), all(known(2), range(0, 2)), fine(1, 0)),
        new Method(25, "many", (s, a) -> s.many(a[0]), all(range(0, 3)), fine(1)),
    };

    /** Functions, lemmas, a claim, a failed attempt with causes, and a tape. */
    private static Subject rich() {
        Subject s = with(ADD, DOUBLE, "12Z;Z;Scx", "21y;dxSy");
        proved(s, "axSy=Saxy");
        proved(s, "bx=axx");
        attempted(s, "dxZ=x", 2);
        claimed(s, "abxSaxy=abxaxy");
        return s;
    }

    private static Subject richWith(String tape) {
        Subject s = rich();
        write(s, tape);
        return s;
    }

    /** No claim: this is possible with functions, but not with lemmas or a script. */
    private static Subject unclaimed() {
        return with(ADD, DOUBLE, "12Z;Z;Scx", "21y;dxSy");
    }

    private static final Maker RICH = RangeTest::rich, UNCLAIMED = RangeTest::unclaimed, NEW = Subject::new;

    public static void main(String[] args) {
        newObject();
        objectsApart();
        for (Method method : METHODS) {
            says(method.promise, "OUTSIDE: another argument is out of its range; UNKNOWN: no such function or lemma");
            rightArguments(method);
            wrongArguments(method);
            errorsInOrder(method);
            withoutClaim(method);
        }
        type();
        wipe();
        function();
        functionRefused();
        claimRefused();
        anew();
        unusedArgument();
        noSuchFunction();
        noSuchLemma();
        stateErrors();
        noneAfterErrors();
        questionsChangeNothing();
        end();
    }

    private static boolean isError(int answer) {
        return answer < 0 && answer != NONE;
    }

    private static void newObject() {
        says(1, "Creates an object without functions, lemmas and a claim, with an empty tape; no attempt has been made.");
        for (int what = 0; what < 4; what++) {
            due("many(" + what + ")", new Subject().many(what), 0);
        }
        for (Method method : METHODS) {
            int want = switch (method.promise) {
                case 5, 6, 10, 22, 23 -> UNKNOWN;
                case 20, 21 -> NONE;
                case 25 -> 0;
                default -> STATE;
            };
            due(method.name, method.asked.on(new Subject(), method.fine), want);
        }
        due("difference()", new Subject().difference(), STATE);
        due("prove()", new Subject().prove(), STATE);
        due("back()", new Subject().back(), STATE);
        due("wipe()", new Subject().wipe(), 0);
        due("anew()", new Subject().anew(), 0);
        due("claim()", new Subject().claim(), -100);
        for (int kind = 0; kind < 4; kind++) {
            due("function(..)", new Subject().function(1 + kind % 2, 1 + kind / 2), -100);
        }
        due("type(0)", new Subject().type(0), 1);
        causesAre(new Subject());
        for (int k = 0; k < 99; k++) {
            due("script(" + k + ", 0)", new Subject().script(k, 0), NONE);
            due("script(" + k + ", 1)", new Subject().script(k, 1), NONE);
        }
    }

    private static void objectsApart() {
        says(1, "Creates an object without functions, lemmas and a claim, with an empty tape; no attempt has been made.");
        Subject first = rich();
        Subject second = new Subject();
        for (int what = 0; what < 4; what++) {
            due("many(" + what + ") of another object", second.many(what), 0);
        }
        due("side(0, 0) of another object", second.side(0, 0), STATE);
        due("why(0) of another object", second.why(0), NONE);
        write(second, "Z;x");
        due("function(1, 1)", second.function(1, 1), 0);
        due("ofFunction(0, 0)", second.ofFunction(0, 0), 1);
        due("ofFunction(0, 0) of the first object", first.ofFunction(0, 0), 2);
        due("many(0) of the first object", first.many(0), 4);
    }

    private static void rightArguments(Method method) {
        for (int i = 0; i < method.fine.length; i++) {
            for (int value : method.arguments[i].right()) {
                int[] values = method.fine.clone();
                values[i] = value;
                int answer = method.asked.on(rich(), values);
                if (isError(answer)) {
                    complain(method.written(values) + " answered " + answer);
                }
            }
        }
    }

    private static void wrongArguments(Method method) {
        for (int i = 0; i < method.fine.length; i++) {
            for (int value : method.arguments[i].wrong()) {
                int[] values = method.fine.clone();
                values[i] = value;
                refused(method.written(values), RICH, s -> method.asked.on(s, values), method.arguments[i].error);
            }
        }
    }

    /** UNKNOWN is named before OUTSIDE by all methods that have both. */
    private static void errorsInOrder(Method method) {
        int ways = 1 << method.fine.length;
        for (int way = 1; way < ways; way++) {
            for (int kind = 0; kind < 2; kind++) {
                int[] values = method.fine.clone();
                int want = OUTSIDE;
                for (int i = 0; i < values.length; i++) {
                    if ((way >> i & 1) != 0) {
                        values[i] = method.arguments[i].wrong()[kind];
                        want = method.arguments[i].error == UNKNOWN ? UNKNOWN : want;
                    }
                }
                due(method.written(values), method.asked.on(rich(), values), want);
            }
        }
    }

    /** STATE is named behind OUTSIDE by all methods that have both. */
    private static void withoutClaim(Method method) {
        switch (method.promise) {
            case 8, 11, 12, 13, 14, 16, 17, 18 -> {
            }
            default -> {
                return;
            }
        }
        says(method.promise, "STATE if there is no claim");
        for (int i = 0; i < method.fine.length; i++) {
            int[] values = method.fine.clone();
            for (int value : method.arguments[i].right()) {
                values[i] = value;
                refused(method.written(values), UNCLAIMED, s -> method.asked.on(s, values), STATE);
                due(method.written(values) + " of a new object", method.asked.on(new Subject(), values), STATE);
            }
            for (int value : method.arguments[i].wrong()) {
                values[i] = value;
                refused(method.written(values), UNCLAIMED, s -> method.asked.on(s, values), OUTSIDE);
            }
        }
    }

    private static Subject withTape(int codes) {
        Subject s = new Subject();
        for (int n = 1; n <= codes; n++) {
            due("type(120)", s.type(120), n);
        }
        return s;
    }

    private static void type() {
        says(2, "OUTSIDE if code is out of range");
        for (int code = 0; code < 128; code++) {
            due("type(" + code + ")", new Subject().type(code), 1);
        }
        for (int code : new int[] {-1, 128, NONE, LEAST, GREATEST}) {
            refused("type(" + code + ")", NEW, s -> s.type(code), OUTSIDE);
            refused("type(" + code + ")", RICH, s -> s.type(code), OUTSIDE);
        }
        says(2, "FULL if there are 48 codes");
        Maker full = () -> withTape(48);
        due("type(0)", withTape(47).type(0), 48);
        due("type(127)", withTape(47).type(127), 48);
        for (int code : new int[] {0, 120, 127}) {
            refused("type(" + code + ") on a full tape", full, s -> s.type(code), FULL);
        }
        for (int code : new int[] {-1, 128, LEAST, GREATEST}) {
            refused("type(" + code + ") on a full tape", full, s -> s.type(code), OUTSIDE);
        }
        Subject s = withTape(48);
        due("many(2)", s.many(2), 48);
        due("type(1)", s.type(1), FULL);
        due("many(2)", s.many(2), 48);
        due("wipe()", s.wipe(), 48);
        due("type(1)", s.type(1), 1);
    }

    private static void wipe() {
        says(3, "Returns the number of codes that it had.");
        for (int codes : new int[] {0, 1, 2, 47, 48}) {
            Subject s = withTape(codes);
            due("wipe()", s.wipe(), codes);
            due("many(2)", s.many(2), 0);
            due("wipe()", s.wipe(), 0);
            due("claim()", s.claim(), -100);
        }
        says(3, "Empties the tape.");
        Subject s = rich();
        due("wipe()", s.wipe(), 14);
        due("many(0)", s.many(0), 4);
        due("many(1)", s.many(1), 2);
        due("many(2)", s.many(2), 0);
        due("many(3)", s.many(3), 18);
        due("side(0, 1)", s.side(0, 1), 'b');
        due("why(3)", s.why(3), 4);
    }

    private static Subject six() {
        Subject s = with("11Z;x", "12Z;Z;x", "21y;x", "22y;y;x", "11Z;Sex", "21y;Sfxy");
        claimed(s, "cxy=x");
        return s;
    }

    private static void function() {
        says(4, "OUTSIDE if arity or depth is out of range");
        // The same tape is the text of a function of each arity, with depth 1.
        Maker maker = () -> richWith("Z;x");
        int[] wrong = {0, 3, -1, NONE, LEAST, GREATEST};
        for (int bad : wrong) {
            refused("function(" + bad + ", 1)", maker, s -> s.function(bad, 1), OUTSIDE);
            refused("function(1, " + bad + ")", maker, s -> s.function(1, bad), OUTSIDE);
            refused("function(2, " + bad + ")", maker, s -> s.function(2, bad), OUTSIDE);
            refused("function(" + bad + ", 2)", maker, s -> s.function(bad, 2), OUTSIDE);
            refused("function(" + bad + ", " + bad + ")", maker, s -> s.function(bad, bad), OUTSIDE);
        }
        for (int arity = 1; arity <= 2; arity++) {
            Subject s = richWith("Z;x");
            due("function(" + arity + ", 1)", s.function(arity, 1), 4);
            due("ofFunction(4, 0)", s.ofFunction(4, 0), arity);
            due("ofFunction(4, 1)", s.ofFunction(4, 1), 1);
            s = richWith("Z;SZ;x");
            due("function(" + arity + ", 2)", s.function(arity, 2), 4);
            due("ofFunction(4, 0)", s.ofFunction(4, 0), arity);
            due("ofFunction(4, 1)", s.ofFunction(4, 1), 2);
        }
        says(4, "Defines a function by the tape, which stays.");
        Subject s = richWith("Z;x");
        due("function(1, 1)", s.function(1, 1), 4);
        due("many(2)", s.many(2), 3);
        due("function(1, 1) again", s.function(1, 1), 5);
        due("the claim stays", s.side(0, 2), 'x');
        due("the lemmas stay", s.many(1), 2);
        due("the script stays", s.many(3), 18);
        due("the causes stay", s.why(3), 4);
    }

    private static void functionRefused() {
        says(4, "FULL if there are 6 functions");
        Maker full = RangeTest::six;
        for (int kind = 0; kind < 4; kind++) {
            int arity = 1 + kind % 2, depth = 1 + kind / 2;
            refused("a seventh function", full, s -> s.function(arity, depth), FULL);
        }
        Maker fullWithText = () -> {
            Subject s = six();
            write(s, "y;x");
            return s;
        };
        refused("a seventh function", fullWithText, s -> s.function(2, 1), FULL);
        refused("a seventh function, arity 0", fullWithText, s -> s.function(0, 1), OUTSIDE);
        refused("a seventh function, depth 3", fullWithText, s -> s.function(2, 3), OUTSIDE);
        says(4, "-100 - p if the tape is not the text of such a function and its fault position is p");
        refused("no tape", () -> richWith(""), s -> s.function(2, 1), -100);
        refused("a claim", RICH, s -> s.function(2, 1), -102);
        refused("the last body is wrong", () -> richWith("y;Sexz"), s -> s.function(2, 1), -105);
        refused("no last body", () -> richWith("y;y;"), s -> s.function(2, 2), -104);
        refused("one body too many", () -> richWith("y;y;x"), s -> s.function(2, 1), -103);
        refused("too long", () -> richWith("y;Z;x" + times("x", 43)), s -> s.function(2, 2), -105);
        says(4, "OUTSIDE if arity or depth is out of range");
        refused("no tape, arity 3", () -> richWith(""), s -> s.function(3, 1), OUTSIDE);
        refused("no tape, depth 0", () -> richWith(""), s -> s.function(1, 0), OUTSIDE);
    }

    private static void claimRefused() {
        says(7, "-100 - p if the tape is not the text of a claim and its fault position is p");
        String[] texts = {"", "x", "x=", "x=y;", "x=y=", "=", "Z;x", "e=x", "x=e", "x=axyz", "axSy=Sax", "x=x" + times("x", 45)};
        int[] faults = {0, 1, 2, 3, 3, 0, 1, 0, 2, 5, 8, 3};
        for (int n = 0; n < texts.length; n++) {
            String text = texts[n];
            refused("claim() of " + text, () -> richWith(text), Subject::claim, -100 - faults[n]);
            Maker none = () -> {
                Subject s = unclaimed();
                write(s, text);
                return s;
            };
            refused("claim() of " + text + ", the first one", none, Subject::claim, -100 - faults[n]);
        }
        says(7, "Reads the claim from the tape, which stays. It replaces the present claim.");
        Subject s = richWith("x=Sy");
        due("claim()", s.claim(), 3);
        due("many(2)", s.many(2), 4);
        due("side(0, 0)", s.side(0, 0), 'x');
        due("side(0, 1)", s.side(0, 1), NONE);
        due("side(1, 1)", s.side(1, 1), 'y');
        due("side(1, 2)", s.side(1, 2), NONE);
        due("the functions stay", s.many(0), 4);
        due("the lemmas stay", s.many(1), 2);
        due("the script stays", s.many(3), 18);
        due("the causes stay", s.why(3), 4);
    }

    private static void anew() {
        says(9, "Removes all functions and lemmas, the claim, and what the latest attempt left. The tape stays.");
        Subject s = rich();
        due("anew()", s.anew(), 4);
        for (int f = 0; f < 6; f++) {
            due("ofFunction(" + f + ", 0)", s.ofFunction(f, 0), UNKNOWN);
            due("body(" + f + ", 0, 0)", s.body(f, 0, 0), UNKNOWN);
            due("value(" + f + ", 0, 0, 0)", s.value(f, 0, 0, 0), UNKNOWN);
        }
        for (int k = 0; k < 8; k++) {
            due("lemma(" + k + ", 0, -9)", s.lemma(k, 0, NONE), UNKNOWN);
            due("tested(" + k + ", 0)", s.tested(k, 0), UNKNOWN);
        }
        for (int k = 0; k < 20; k++) {
            due("script(" + k + ", 0)", s.script(k, 0), NONE);
        }
        causesAre(s);
        for (Method method : METHODS) {
            if (method.promise >= 11 && method.promise <= 18 || method.promise == 8) {
                due(method.name, method.asked.on(s, method.fine), STATE);
            }
        }
        due("difference()", s.difference(), STATE);
        due("prove()", s.prove(), STATE);
        due("back()", s.back(), STATE);
        due("many(0)", s.many(0), 0);
        due("many(1)", s.many(1), 0);
        due("many(2)", s.many(2), 14);
        due("many(3)", s.many(3), 0);
        // The tape still is abxSaxy=abxaxy, the letters of which are unknown now.
        due("claim()", s.claim(), -100);
        due("function(2, 1)", s.function(2, 1), -100);
        says(9, "Returns the number of functions that there were.");
        due("anew()", s.anew(), 0);
        due("anew() with six functions", six().anew(), 6);
        due("anew() of a new object", new Subject().anew(), 0);
        Subject again = six();
        again.anew();
        for (int f = 0; f < 6; f++) {
            due("function " + f + " once more", define(again, "11Z;x"), f);
        }
        due("a seventh function", define(again, "11Z;x"), FULL);
    }

    private static void unusedArgument() {
        says(10, "not used (any int) if the arity is 1");
        for (int n : new int[] {0, 9, -1, 10, NONE, LEAST, GREATEST}) {
            due("value(1, 3, " + n + ", 0)", rich().value(1, 3, n, 0), 6);
            due("value(1, 3, " + n + ", 1)", rich().value(1, 3, n, 1), 4);
            due("value(1, 10, " + n + ", 1)", rich().value(1, 10, n, 1), OUTSIDE);
            due("value(1, 3, " + n + ", 2)", rich().value(1, 3, n, 2), OUTSIDE);
            due("value(4, 3, " + n + ", 1)", rich().value(4, 3, n, 1), UNKNOWN);
        }
    }

    private static void noSuchFunction() {
        says(5, "UNKNOWN if there is no such function");
        for (int count = 0; count <= 6; count++) {
            Subject s = new Subject();
            for (int f = 0; f < count; f++) {
                due("function " + f, define(s, "11Z;x"), f);
            }
            for (int f = -1; f <= 6; f++) {
                boolean known = f >= 0 && f < count;
                due("ofFunction(" + f + ", 0)", s.ofFunction(f, 0), known ? 1 : UNKNOWN);
                due("body(" + f + ", 2, 0)", s.body(f, 2, 0), known ? 'x' : UNKNOWN);
                due("value(" + f + ", 9, 0, 0)", s.value(f, 9, 0, 0), known ? 8 : UNKNOWN);
            }
        }
    }

    private static void noSuchLemma() {
        says(22, "UNKNOWN if there is no such lemma");
        Subject s = with(ADD);
        for (int count = 0; count <= 8; count++) {
            for (int k = -1; k <= 8; k++) {
                boolean known = k >= 0 && k < count;
                due("lemma(" + k + ", 1, -9)", s.lemma(k, 1, NONE), known ? k + 1 : UNKNOWN);
                due("tested(" + k + ", 0)", s.tested(k, 0), known ? 64 : UNKNOWN);
            }
            due("many(1)", s.many(1), count);
            proved(s, "a" + times("S", count) + "Zx=" + times("S", count) + "x");
        }
        says(24, "Removes the last lemma.");
        for (int left = 7; left >= 0; left--) {
            due("back()", s.back(), left);
            due("many(1)", s.many(1), left);
            due("lemma(" + left + ", 0, -9)", s.lemma(left, 0, NONE), UNKNOWN);
            due("lemma(" + (left - 1) + ", 1, -9)", s.lemma(left - 1, 1, NONE), left == 0 ? UNKNOWN : left);
        }
        says(24, "STATE if there is none");
        due("back()", s.back(), STATE);
        due("back()", s.back(), STATE);
        due("many(1)", s.many(1), 0);
    }

    private static void stateErrors() {
        says(15, "STATE if there is no claim");
        refused("difference()", UNCLAIMED, Subject::difference, STATE);
        says(19, "STATE if there is no claim");
        refused("prove()", UNCLAIMED, Subject::prove, STATE);
        refused("prove()", NEW, Subject::prove, STATE);
        says(24, "STATE if there is none");
        refused("back()", UNCLAIMED, Subject::back, STATE);
        refused("back()", NEW, Subject::back, STATE);
        Maker noLemma = () -> {
            Subject s = with("21y;axSy");
            attempted(s, "axZ=x", 2);
            return s;
        };
        refused("back()", noLemma, Subject::back, STATE);
        says(16, "STATE if there is no claim, or the left side does not embed the right one");
        Maker apart = () -> {
            Subject s = rich();
            claimed(s, "axy=ayx");
            return s;
        };
        for (int i : new int[] {NONE, 0, 2, 3, 39}) {
            refused("steered(" + i + ")", apart, s -> s.steered(i), STATE);
        }
        for (int i : new int[] {-1, 40, NONE - 1, NONE + 1}) {
            refused("steered(" + i + ")", apart, s -> s.steered(i), OUTSIDE);
        }
        says(13, "STATE if there is no claim, or normalizing overflows");
        Maker over = () -> {
            Subject s = rich();
            claimed(s, "x=bbbSSSSSx");
            return s;
        };
        due("normal(0, -9), the other side", over.make().normal(0, NONE), 1);
        due("normal(0, 0), the other side", over.make().normal(0, 0), 'x');
        due("normal(0, 1), the other side", over.make().normal(0, 1), NONE);
        for (int i : new int[] {NONE, 0, 39}) {
            refused("normal(1, " + i + ")", over, s -> s.normal(1, i), STATE);
        }
        for (int i : new int[] {-1, 40}) {
            refused("normal(1, " + i + ")", over, s -> s.normal(1, i), OUTSIDE);
        }
    }

    private static void noneAfterErrors() {
        says(0, "NONE is returned only if no error applies");
        Subject s = rich();
        due("ofFunction(0, 3)", s.ofFunction(0, 3), NONE);
        due("ofFunction(4, 3)", s.ofFunction(4, 3), UNKNOWN);
        due("body(0, 1, 9)", s.body(0, 1, 9), NONE);
        due("body(0, 1, 10)", s.body(0, 1, 10), OUTSIDE);
        due("body(4, 1, 9)", s.body(4, 1, 9), UNKNOWN);
        due("side(0, 19)", s.side(0, 19), NONE);
        due("side(0, 20)", s.side(0, 20), OUTSIDE);
        due("side(2, 19)", s.side(2, 19), OUTSIDE);
        due("normal(0, 39)", s.normal(0, 39), NONE);
        due("normal(2, 39)", s.normal(2, 39), OUTSIDE);
        due("steered(39)", s.steered(39), NONE);
        due("steered(40)", s.steered(40), OUTSIDE);
        due("common(19)", s.common(19), NONE);
        due("common(20)", s.common(20), OUTSIDE);
        due("general(0, 19)", s.general(0, 19), NONE);
        due("general(2, 19)", s.general(2, 19), OUTSIDE);
        due("why(4)", s.why(4), NONE);
        due("why(9)", s.why(9), NONE);
        due("why(10)", s.why(10), OUTSIDE);
        due("script(18, 0)", s.script(18, 0), NONE);
        due("script(18, 2)", s.script(18, 2), OUTSIDE);
        due("script(98, 1)", s.script(98, 1), NONE);
        due("script(99, 1)", s.script(99, 1), OUTSIDE);
        due("lemma(0, 0, 39)", s.lemma(0, 0, 39), NONE);
        due("lemma(0, 2, 39)", s.lemma(0, 2, 39), OUTSIDE);
        due("lemma(2, 0, 39)", s.lemma(2, 0, 39), UNKNOWN);
        // No counterexample, no induction variable, no common subterm, no embedding.
        claimed(s, "Sx=Sx");
        due("counter(2)", s.counter(2), NONE);
        due("counter(3)", s.counter(3), OUTSIDE);
        due("scheme(2)", s.scheme(2), NONE);
        due("scheme(3)", s.scheme(3), OUTSIDE);
        due("common(-9)", s.common(NONE), NONE);
        due("common(-8)", s.common(NONE + 1), OUTSIDE);
        due("common(20)", s.common(20), OUTSIDE);
        claimed(s, "Sx=Sy");
        due("difference()", s.difference(), NONE);
        undefinedAfterErrors();
    }

    /** b(m) has the work 10 * (m + 1), so b(6) is not defined. */
    private static void undefinedAfterErrors() {
        Subject s = with("11Z;Sax", "11a" + times("S", 8) + "Z;abx");
        due("value(1, 6, 0, 0)", s.value(1, 6, 0, 0), NONE);
        due("value(1, 6, 0, 1)", s.value(1, 6, 0, 1), NONE);
        due("value(1, 6, 0, 2)", s.value(1, 6, 0, 2), OUTSIDE);
        due("value(2, 6, 0, 0)", s.value(2, 6, 0, 0), UNKNOWN);
        due("value(1, 10, 0, 0)", s.value(1, 10, 0, 0), OUTSIDE);
        claimed(s, "bSx=Z");
        due("holds(5, 0, 0)", s.holds(5, 0, 0), NONE);
        due("holds(6, 0, 0)", s.holds(6, 0, 0), OUTSIDE);
        due("holds(5, 6, 0)", s.holds(5, 6, 0), OUTSIDE);
    }

    private static void questionsChangeNothing() {
        says(0, "how the methods that only return something are told");
        for (Method method : METHODS) {
            promise = method.promise;
            for (int i = 0; i < method.fine.length; i++) {
                for (int value : method.arguments[i].right()) {
                    int[] values = method.fine.clone();
                    values[i] = value;
                    unchanged(method.written(values), RICH, s -> method.asked.on(s, values));
                }
            }
        }
        promise = 15;
        unchanged("difference()", RICH, Subject::difference);
    }
}
