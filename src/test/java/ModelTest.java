import java.util.ArrayList;
import java.util.List;
import java.util.Random;
import java.util.TreeMap;

/** Random runs of calls, the same ones always, on the class and on the model; every answer must be the same. */
public final class ModelTest {
    // A turn of a run makes fewer than 125 calls, and nothing is promised after the 512th call.
    private static final int RUNS = 1500, CALLS = 512, TURN = 125;

    // Texts of useful functions, each with its arity and depth; self and earlier letters are put in as they are due.
    private static final String[] FUNCTIONS = {
        "21y;S@xy", "21Z;ay@xy", "11Z;SS@x", "12Z;Z;S@x", "12Z;SZ;@x", "11SZ;b@x", "21y;@xSy", "12Z;SZ;aSx@x",
        "22y;Sy;SS@xy", "11Z;@x", "21y;@xy", "22Z;y;ay@xy", "11SZ;aSx@x", "21SZ;by@xy", "11Z;x", "12Z;SZ;a@x@x",
        "22y;Z;S@x@xy", "21Z;a@xy@xy", "11SSZ;a@x@x", "22SSy;aZy;a@xya@xyy", "12SSSSSSSSSZ;Z;@x",
        "21y;a@xya@xy@xy", "22y;Z;@xSSy", "11SZ;SS@x"
    };
    private static final String[] CLAIMS = {
        "axZ=x", "axSy=Saxy", "axy=ayx", "aaxyz=axayz", "bx=axx", "baxy=abxby", "cx=x", "cbx=x", "cxy=cyx", "dx=x",
        "caxyz=acxzcyz", "axSx=Saxx", "axax=aaxxx", "axaxx=aaxxx", "bcx=cbx", "dxy=axy", "exy=ayx", "cdx=dcx",
        "axy=axz", "Sx=x", "x=y", "Z=Z", "x=x", "bSx=SSbx", "aaxyx=axayx", "axbx=abxx", "aSxy=axSy", "dxZ=x",
        "caxyZ=acxZcyZ", "cxZ=Z", "cxSy=axcxy", "dxSy=Sdxy", "axaxaxx=aaxxaxx", "aaxxaxx=aaxaxxx", "exx=bx"
    };

    private final SteeredClaims real = new SteeredClaims();
    private final Model model = new Model();
    private final List<String> history = new ArrayList<>();
    private final Random random;
    private static final TreeMap<String, Integer> seen = new TreeMap<>();
    private boolean same = true;

    private ModelTest(long seed) {
        random = new Random(seed);
    }

    public static void main(String[] args) {
        int runs = args.length > 1 ? Integer.parseInt(args[1]) : RUNS;
        int first = args.length > 2 ? Integer.parseInt(args[2]) : 0;
        int wrong = 0;
        for (int run = first; run < first + runs && wrong < 5; run++) {
            ModelTest test = new ModelTest(run);
            test.run();
            if (test.history.size() > CALLS) {
                throw new IllegalStateException("run " + run + " is too long");
            }
            if (!test.same) {
                wrong++;
                System.out.println("run " + run + ":");
                test.history.forEach(row -> System.out.println("  " + row));
            }
        }
        if (args.length > 3) {
            seen.forEach((what, times) -> System.out.println(what + ": " + times));
        }
        if (wrong != 0) {
            System.exit(1);
        }
    }

    private boolean check(String call, int got, int due) {
        history.add(call + " answered " + got + ", due is " + due);
        String name = call.substring(0, call.indexOf('('));
        String kind = got < 0 ? got <= -100 ? "fault" : Integer.toString(got) : name.equals("prove") ? Integer.toString(got) : "number";
        seen.merge(name + " " + kind, 1, Integer::sum);
        if (name.equals("script") && call.endsWith(" 0)")) {
            seen.merge("note " + got, 1, Integer::sum);
        }
        same &= got == due;
        return got == due;
    }

    private void run() {
        boolean provesMuch = random.nextInt(3) > 0;
        if (provesMuch) {
            defineTheory();
        }
        while (history.size() < CALLS - TURN && same) {
            int what = random.nextInt(20);
            if (provesMuch && what < 9) {
                claimOne();
                proveOne();
            } else if (what < 3) {
                defineOne();
            } else if (what < 6) {
                claimOne();
            } else if (what < 8) {
                proveOne();
            } else if (what < 9 && random.nextInt(8) == 0) {
                call("anew");
            } else {
                for (int i = 0; i < 6 && same; i++) {
                    call(NAMES[random.nextInt(NAMES.length)]);
                }
            }
        }
    }

    private void proveOne() {
        call("prove");
        check("many(3)", real.many(3), model.many(3));
        seen.merge("notes " + model.many(3) / 10 * 10, 1, Integer::sum);
        seen.merge("lemmas " + model.many(1), 1, Integer::sum);
        for (int k = 0; k < model.many(3) && k < 30 && same; k++) {
            int note = model.many(3) > 30 ? random.nextInt(99) : k;
            check("script(" + note + ", 0)", real.script(note, 0), model.script(note, 0));
            check("script(" + note + ", 1)", real.script(note, 1), model.script(note, 1));
        }
        StringBuilder chain = new StringBuilder();
        for (int k = 0; k < 5 && same; k++) {
            check("why(" + k + ")", real.why(k), model.why(k));
            chain.append(' ').append(model.why(k));
        }
        seen.merge("chain" + chain, 1, Integer::sum);
        for (int k = 0; k < model.many(1) && same; k++) {
            int which = random.nextInt(2), i = random.nextInt(3) - 1;
            i = i < 0 ? -9 : i;
            check("lemma(" + k + ", " + which + ", " + i + ")", real.lemma(k, which, i), model.lemma(k, which, i));
        }
    }

    private void defineTheory() {
        String[] theory = THEORIES[random.nextInt(THEORIES.length)];
        for (String text : theory) {
            int arity = text.charAt(0) - '0', depth = text.charAt(1) - '0';
            type(text.substring(2));
            check("function(" + arity + ", " + depth + ")", real.function(arity, depth), model.function(arity, depth));
        }
    }

    private static final String[][] THEORIES = {
        {"21y;Saxy", "11Z;SSbx", "21Z;aycxy", "12Z;Z;Sdx", "21y;exSy", "12Z;SZ;fx"},
        {"21y;axSy", "11Z;aSxbx", "21Z;acxyy", "12Z;SZ;adxdx", "21Z;y"},
        {"22y;Sy;SSaxy", "12Z;SSZ;SSSSbx", "22Z;y;aycxy", "11SZ;cSSZdx", "11Z;Sex"},
        {"21y;Saxy", "22y;Sy;bxSSy", "21y;acxyy", "11Z;aSxdx", "12SZ;SZ;aexaex"},
    };

    private static final String[] NAMES = {
        "type", "ofFunction", "body", "side", "value", "holds", "counter", "normal", "scheme", "difference", "steered",
        "common", "general", "why", "script", "lemma", "tested", "many", "lemma", "steered", "normal", "general", "backs"
    };

    /** Mostly a number in its range, sometimes just outside it or far away. */
    private int number(int greatest) {
        int odd = random.nextInt(40);
        return odd == 0 ? -1 : odd == 1 ? greatest + 1 : odd == 2 ? random.nextInt() : odd == 3 ? greatest
                : random.nextInt(greatest + 1);
    }

    private int place(int greatest) {
        int odd = random.nextInt(4);
        return odd == 0 ? -9 : odd == 1 ? number(greatest) : number(6);
    }

    private void type(String text) {
        check("wipe()", real.wipe(), model.wipe());
        for (char c : text.toCharArray()) {
            check("type(" + (int) c + ")", real.type(c), model.type(c));
        }
    }

    private String spoiled(String text) {
        if (random.nextInt(8) != 0) {
            return text;
        }
        StringBuilder b = new StringBuilder(text);
        int p = random.nextInt(b.length());
        char c = "ZSxyzabcdef;=w".charAt(random.nextInt(14));
        switch (random.nextInt(4)) {
            case 0 -> b.setCharAt(p, c);
            case 1 -> b.deleteCharAt(p);
            case 2 -> b.insert(p, c);
            default -> b.append(c);
        }
        return b.toString();
    }

    private String term(String leaves, String unary, String binary, int size) {
        int kind = random.nextInt(5);
        if (size >= 3 && kind > 1 && !binary.isEmpty()) {
            int left = 1 + random.nextInt(size - 2);
            return binary.charAt(random.nextInt(binary.length())) + term(leaves, unary, binary, left)
                    + term(leaves, unary, binary, size - 1 - left);
        }
        if (size >= 2 && kind > 0) {
            return unary.charAt(random.nextInt(unary.length())) + term(leaves, unary, binary, size - 1);
        }
        return "" + leaves.charAt(random.nextInt(leaves.length()));
    }

    /** The letters of the functions with an arity. */
    private String letters(int arity) {
        StringBuilder b = new StringBuilder();
        for (int f = 0; f < model.many(0); f++) {
            if (model.ofFunction(f, 0) == arity) {
                b.append((char) ('a' + f));
            }
        }
        return b.toString();
    }

    private void defineOne() {
        int count = model.many(0);
        String chosen = FUNCTIONS[count == 0 ? 0 : random.nextInt(FUNCTIONS.length)];
        int arity = chosen.charAt(0) - '0', depth = chosen.charAt(1) - '0';
        String text = chosen.substring(2).replace('@', (char) ('a' + count));
        if (random.nextInt(3) == 0) {
            arity = 1 + random.nextInt(2);
            depth = 1 + random.nextInt(2);
            text = randomFunction(arity, depth, (char) ('a' + count));
        }
        type(spoiled(text));
        if (random.nextInt(30) == 0) {
            arity = number(2);
            depth = number(2);
        }
        check("function(" + arity + ", " + depth + ")", real.function(arity, depth), model.function(arity, depth));
    }

    private String randomFunction(int arity, int depth, char own) {
        String leaves = arity == 2 ? "Zyy" : "Z";
        StringBuilder b = new StringBuilder();
        for (int i = 0; i < depth; i++) {
            b.append(term(leaves, "S" + letters(1), letters(2), 1 + random.nextInt(3))).append(';');
        }
        // The digit stands for a call of the function itself.
        String last = term(leaves + "x11", "S" + letters(1), letters(2), 1 + random.nextInt(8));
        String call = own + "x" + (arity == 2 ? random.nextBoolean() ? "y" : "Sy" : "");
        return b + last.replace("1", call);
    }

    private void claimOne() {
        String text = CLAIMS[random.nextInt(CLAIMS.length)];
        if (random.nextInt(2) == 0) {
            String leaves = random.nextBoolean() ? "xxyyzZ" : random.nextBoolean() ? "xxxyZ" : "x";
            String left = term(leaves, "S" + letters(1), letters(2), 1 + random.nextInt(12));
            String right = term(leaves, "S" + letters(1), letters(2), 1 + random.nextInt(12));
            text = left + "=" + (random.nextInt(4) == 0 ? left : random.nextInt(3) == 0 ? swapped(left) : right);
        } else if (random.nextInt(3) == 0) {
            String right = term("xxyzZ", "S" + letters(1), letters(2), 1 + random.nextInt(10));
            text = wrapped(right) + "=" + right;
        }
        type(spoiled(text));
        check("claim()", real.claim(), model.claim());
    }

    /** The term with some more symbols around some of its subterms, so that it embeds what it was. */
    private String wrapped(String term) {
        StringBuilder b = new StringBuilder();
        for (char c : term.toCharArray()) {
            String binary = letters(2);
            switch (random.nextInt(6)) {
                case 0 -> b.append('S');
                case 1 -> b.append("SS");
                case 2 -> b.append(binary.isEmpty() ? "S" : binary.charAt(random.nextInt(binary.length())) + "" + "xyzZ".charAt(random.nextInt(4)));
                default -> { }
            }
            b.append(c);
        }
        return b.toString();
    }

    private static String swapped(String text) {
        return text.replace('x', '#').replace('y', 'x').replace('#', 'y');
    }

    private void call(String name) {
        int a, b, c, d;
        switch (name) {
            case "type" -> check("type(" + (a = number(127)) + ")", real.type(a), model.type(a));
            case "ofFunction" -> check("ofFunction(" + (a = number(5)) + ", " + (b = number(4)) + ")", real.ofFunction(a, b), model.ofFunction(a, b));
            case "body" -> check("body(" + (a = number(5)) + ", " + (b = number(2)) + ", " + (c = number(9)) + ")", real.body(a, b, c), model.body(a, b, c));
            case "side" -> check("side(" + (a = number(1)) + ", " + (b = number(19)) + ")", real.side(a, b), model.side(a, b));
            case "value" -> check("value(" + (a = number(5)) + ", " + (b = number(9)) + ", " + (c = number(9)) + ", " + (d = number(1)) + ")", real.value(a, b, c, d), model.value(a, b, c, d));
            case "holds" -> check("holds(" + (a = number(5)) + ", " + (b = number(5)) + ", " + (c = number(5)) + ")", real.holds(a, b, c), model.holds(a, b, c));
            case "counter" -> check("counter(" + (a = number(2)) + ")", real.counter(a), model.counter(a));
            case "normal" -> check("normal(" + (a = number(1)) + ", " + (b = place(39)) + ")", real.normal(a, b), model.normal(a, b));
            case "scheme" -> check("scheme(" + (a = number(2)) + ")", real.scheme(a), model.scheme(a));
            case "difference" -> check("difference()", real.difference(), model.difference());
            case "steered" -> check("steered(" + (a = place(39)) + ")", real.steered(a), model.steered(a));
            case "common" -> check("common(" + (a = place(19)) + ")", real.common(a), model.common(a));
            case "general" -> check("general(" + (a = number(1)) + ", " + (b = place(19)) + ")", real.general(a, b), model.general(a, b));
            case "why" -> check("why(" + (a = number(9)) + ")", real.why(a), model.why(a));
            case "script" -> check("script(" + (a = number(98)) + ", " + (b = number(1)) + ")", real.script(a, b), model.script(a, b));
            case "lemma" -> check("lemma(" + (a = number(7)) + ", " + (b = number(1)) + ", " + (c = place(39)) + ")", real.lemma(a, b, c), model.lemma(a, b, c));
            case "tested" -> check("tested(" + (a = number(7)) + ", " + (b = number(2)) + ")", real.tested(a, b), model.tested(a, b));
            case "many" -> check("many(" + (a = number(3)) + ")", real.many(a), model.many(a));
            case "prove" -> check("prove()", real.prove(), model.prove());
            case "anew" -> check("anew()", real.anew(), model.anew());
            case "backs" -> {
                if (random.nextInt(4) == 0) {
                    check("back()", real.back(), model.back());
                }
            }
            default -> throw new IllegalStateException(name);
        }
    }
}
