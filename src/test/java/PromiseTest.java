/** For each promise ordinary inputs, edges and wrong inputs; the answers were worked out by hand from the document. */
public final class PromiseTest extends Checks {
    public static void main(String[] args) {
        newObject();
        type();
        wipe();
        function();
        functionFaults();
        ofFunctionAndBody();
        claim();
        side();
        anew();
        value();
        deepValues();
        holds();
        counter();
        normal();
        deepNormalForms();
        scheme();
        difference();
        steered();
        steeredDirections();
        steeredLimit();
        common();
        general();
        proveProved();
        proveRefutedAndStuck();
        proveOverflow();
        generalizedGuess();
        why();
        script();
        lemma();
        lemmaLimits();
        tested();
        testedVariables();
        back();
        many();
        end();
    }

    private static void newObject() {
        promise = 1;
        Subject s = new Subject();
        for (int what = 0; what < 4; what++) {
            due("many(" + what + ")", s.many(what), 0);
        }
        due("side(0, 0)", s.side(0, 0), STATE);
        due("ofFunction(0, 0)", s.ofFunction(0, 0), UNKNOWN);
        due("lemma(0, 0, 0)", s.lemma(0, 0, 0), UNKNOWN);
        due("script(0, 0)", s.script(0, 0), NONE);
        due("why(0)", s.why(0), NONE);
        due("prove()", s.prove(), STATE);
        due("wipe()", s.wipe(), 0);
        due("anew()", s.anew(), 0);
        due("UNKNOWN", SteeredClaims.UNKNOWN, UNKNOWN);
        due("OUTSIDE", SteeredClaims.OUTSIDE, OUTSIDE);
        due("STATE", SteeredClaims.STATE, STATE);
        due("FULL", SteeredClaims.FULL, FULL);
        due("NONE", SteeredClaims.NONE, NONE);
    }

    private static void type() {
        promise = 2;
        Subject s = new Subject();
        due("type(0)", s.type(0), 1);
        due("type(127)", s.type(127), 2);
        for (int code : new int[] {-1, 128, LEAST, GREATEST}) {
            due("type(" + code + ")", s.type(code), OUTSIDE);
        }
        due("many(2)", s.many(2), 2);
        for (int n = 3; n <= 48; n++) {
            due("type(120)", s.type(120), n);
        }
        due("type(120) on a full tape", s.type(120), FULL);
        due("type(128) on a full tape", s.type(128), OUTSIDE);
        due("many(2)", s.many(2), 48);
    }

    private static void wipe() {
        promise = 3;
        Subject s = new Subject();
        write(s, "x=x");
        due("wipe()", s.wipe(), 3);
        due("wipe()", s.wipe(), 0);
        due("many(2)", s.many(2), 0);
        due("claim()", s.claim(), -100);
    }

    private static void function() {
        promise = 4;
        Subject s = new Subject();
        write(s, "y;Saxy");
        int[][] outside = {{0, 1}, {3, 1}, {2, 0}, {2, 3}, {LEAST, 1}, {1, GREATEST}};
        for (int[] pair : outside) {
            due("function(" + pair[0] + ", " + pair[1] + ")", s.function(pair[0], pair[1]), OUTSIDE);
        }
        due("function(2, 1)", s.function(2, 1), 0);
        due("many(2)", s.many(2), 6);
        // The same tape now defines b, the body of which uses a with any arguments.
        due("function(2, 1) again", s.function(2, 1), 1);
        due("value(1, 3, 4, 0)", s.value(1, 3, 4, 0), 7);
        due("value(1, 3, 4, 1)", s.value(1, 3, 4, 1), 4);
        for (int f = 2; f < 6; f++) {
            due("function " + f, s.function(2, 1), f);
        }
        due("a seventh function", s.function(2, 1), FULL);
        due("function(0, 1), full", s.function(0, 1), OUTSIDE);
        s.wipe();
        due("function(1, 1), full, no text", s.function(1, 1), FULL);
        due("many(0)", s.many(0), 6);
    }

    private static void functionFaults() {
        promise = 4;
        Object[][] faults = {
            {"11", 0}, {"11Z", 1}, {"11Z;", 2}, {"11Z;x;", 3}, {"11Z;Z;x", 3}, {"12Z;x;x", 2}, {"12Z;Z", 3},
            {"12Z;Z;", 4}, {"12Z;Z;x;", 5}, {"11y;x", 0}, {"11Z;y", 2}, {"21y;axyy", 5}, {"21y;ay", 3}, {"21y;a", 3},
            {"21y;aax", 3}, {"21y;aZy", 3}, {"21y;ax", 4}, {"21z;x", 0}, {"21y;z", 2}, {"21ax;x", 0}, {"12Z;ax;x", 2},
            {"11b;x", 0}, {"11Z;b", 2}, {"11Z=x", 1}, {"11Z;x=", 3}, {"11ZZ;x", 1}, {"11;x", 0}, {"11S;x", 1},
            {"11" + times("S", 10), 9}, {"11" + times("S", 9), 9}, {"11" + times("S", 9) + "ZZ", 10},
            {"11Z;" + times("S", 9) + "ax", 11}, {"21Z;" + times("S", 8) + "axy", 10},
            {"12Z;" + times("S", 11), 11}, {"11\0", 0}, {"11Z;\u007f", 2},
        };
        for (Object[] row : faults) {
            Subject s = new Subject();
            String text = (String) row[0];
            due(text, define(s, text), -100 - (Integer) row[1]);
            due("many(0)", s.many(0), 0);
            due("many(2)", s.many(2), text.length() - 2);
        }
        String[] fine = {
            "11Z;x", "12Z;SZ;ax", "21y;axy", "11" + times("S", 9) + "Z;x", "11Z;" + times("S", 8) + "ax",
            "21Z;" + times("S", 7) + "axy", "21y;axaxaxZ", "21Z;y", "22y;y;axx",
            "12" + times("S", 9) + "Z;" + times("S", 9) + "Z;" + times("S", 9) + "x",
        };
        for (String text : fine) {
            due(text, define(new Subject(), text), 0);
        }
        // Known letters may be used in all bodies, with their own arities; the next letter only in the last one.
        Subject s = with(ADD, DOUBLE);
        due("aZ;x", define(s, "11aZ;x"), -100 - 2);
        due("c;x", define(s, "11c;x"), -100);
        due("Z;d", define(s, "11Z;d"), -100 - 2);
        due("Z;aSSSSSSSSZ", define(s, "11Z;a" + times("S", 8) + "Z"), -100 - 10);
        due("Z;acxcx", define(s, "11aZbZ;acxbcx"), 2);
    }

    private static void ofFunctionAndBody() {
        promise = 5;
        Subject s = with("22y;Sy;SSaxy", "11Z;SSbx");
        int[][] properties = {{2, 2, 1, 2, 5}, {1, 1, 1, NONE, 4}};
        for (int f = 0; f < 2; f++) {
            for (int what = 0; what < 5; what++) {
                due("ofFunction(" + f + ", " + what + ")", s.ofFunction(f, what), properties[f][what]);
            }
            due("ofFunction(" + f + ", -1)", s.ofFunction(f, -1), OUTSIDE);
            due("ofFunction(" + f + ", 5)", s.ofFunction(f, 5), OUTSIDE);
        }
        due("ofFunction(2, 0)", s.ofFunction(2, 0), UNKNOWN);
        due("ofFunction(-1, 9)", s.ofFunction(-1, 9), UNKNOWN);
        promise = 6;
        String[] bodies = {"y", "Sy", "SSaxy"};
        for (int which = 0; which < 3; which++) {
            for (int i = 0; i < 10; i++) {
                int want = i < bodies[which].length() ? bodies[which].charAt(i) : NONE;
                due("body(0, " + which + ", " + i + ")", s.body(0, which, i), want);
            }
        }
        due("body(1, 1, 0)", s.body(1, 1, 0), NONE);
        due("body(1, 1, 10)", s.body(1, 1, 10), OUTSIDE);
        due("body(0, 3, 0)", s.body(0, 3, 0), OUTSIDE);
        due("body(0, -1, 0)", s.body(0, -1, 0), OUTSIDE);
        due("body(0, 0, -1)", s.body(0, 0, -1), OUTSIDE);
        due("body(0, 0, -9)", s.body(0, 0, NONE), OUTSIDE);
        due("body(2, 3, 10)", s.body(2, 3, 10), UNKNOWN);
        due("body(MIN, 0, 0)", s.body(LEAST, 0, 0), UNKNOWN);
    }

    private static void claim() {
        promise = 7;
        Subject s = with(ADD, DOUBLE);
        due("axSy=Saxy", state(s, "axSy=Saxy"), 8);
        due("many(2)", s.many(2), 9);
        Object[][] faults = {
            {"", 0}, {"x", 1}, {"x=", 2}, {"=x", 0}, {"x=y=", 3}, {"x;y", 1}, {"xx=y", 1}, {"ax=y", 2}, {"c=x", 0},
            {"x=c", 2}, {"x=axyz", 5}, {"x=ax", 4}, {"x=w", 2}, {"bxy=x", 2}, {times("S", 20), 19}, {times("S", 19), 19},
            {"x=" + times("S", 20), 21}, {times("S", 18) + "a", 18}, {times("S", 19) + "Zx", 20},
        };
        for (Object[] row : faults) {
            due((String) row[0], state(s, (String) row[0]), -100 - (Integer) row[1]);
            due("the claim stays", s.side(0, 0), 'a');
        }
        due("40 symbols", state(s, times("S", 19) + "Z=" + times("S", 17) + "axy"), 40);
        due("side(1, 19)", s.side(1, 19), 'y');
        due("x=z", state(s, "x=z"), 2);
        due("side(1, 0)", s.side(1, 0), 'z');
        due("side(0, 1)", s.side(0, 1), NONE);
    }

    private static void side() {
        promise = 8;
        Subject s = with(ADD);
        due("side(0, 0)", s.side(0, 0), STATE);
        due("side(2, 0)", s.side(2, 0), OUTSIDE);
        due("side(0, 20)", s.side(0, 20), OUTSIDE);
        claimed(s, "axSy=Saxy");
        String[] sides = {"axSy", "Saxy"};
        for (int which = 0; which < 2; which++) {
            for (int i = 0; i < 20; i++) {
                due("side(" + which + ", " + i + ")", s.side(which, i), i < 4 ? sides[which].charAt(i) : NONE);
            }
        }
        due("side(-1, 0)", s.side(-1, 0), OUTSIDE);
        due("side(2, 0)", s.side(2, 0), OUTSIDE);
        due("side(0, -1)", s.side(0, -1), OUTSIDE);
        due("side(0, -9)", s.side(0, NONE), OUTSIDE);
        due("side(1, 20)", s.side(1, 20), OUTSIDE);
    }

    private static void anew() {
        promise = 9;
        Subject s = with(ADD, DOUBLE);
        proved(s, "axZ=x");
        claimed(s, "Sx=x");
        due("prove()", s.prove(), 1);
        due("anew()", s.anew(), 2);
        due("many(0)", s.many(0), 0);
        due("many(1)", s.many(1), 0);
        due("many(2)", s.many(2), 4);
        due("many(3)", s.many(3), 0);
        due("why(0)", s.why(0), NONE);
        due("script(0, 0)", s.script(0, 0), NONE);
        due("side(0, 0)", s.side(0, 0), STATE);
        due("value(0, 0, 0, 0)", s.value(0, 0, 0, 0), UNKNOWN);
        due("lemma(0, 0, -9)", s.lemma(0, 0, NONE), UNKNOWN);
        due("claim() from the tape that stayed", s.claim(), 3);
        due("axZ=x", state(s, "axZ=x"), -100);
        due("a with another arity", define(s, "11Z;Sax"), 0);
        due("axZ=x", state(s, "axZ=x"), -102);
        due("axZ=x", state(s, "ax=x"), 3);
        due("anew()", s.anew(), 1);
        due("anew()", s.anew(), 0);
    }

    private static void value() {
        promise = 10;
        // b(m) is m; the work for c(m), which is 8, is 10 * (m + 1); d(m + 1) is c(m).
        Subject s = with(ADD, "11Z;Sbx", "11b" + times("S", 8) + "Z;bcx", "11Z;cx", "12Z;SZ;SSSex", "22y;Z;fxSy");
        due("value(0, 3, 4, 0)", s.value(0, 3, 4, 0), 7);
        due("value(0, 3, 4, 1)", s.value(0, 3, 4, 1), 4);
        due("value(0, 9, 9, 0)", s.value(0, 9, 9, 0), 18);
        due("value(2, 5, 0, 0)", s.value(2, 5, 0, 0), 8);
        due("value(2, 5, 0, 1)", s.value(2, 5, 0, 1), 60);
        due("value(2, 6, 0, 0)", s.value(2, 6, 0, 0), NONE);
        due("value(2, 6, 0, 1)", s.value(2, 6, 0, 1), NONE);
        due("value(3, 5, 0, 1)", s.value(3, 5, 0, 1), 51);
        due("value(3, 6, 0, 0): work 61", s.value(3, 6, 0, 0), NONE);
        int[] threes = {0, 1, 3, 4, 6, 7, 9, 10, 12, 13};
        for (int m = 0; m < 10; m++) {
            due("value(4, " + m + ", ..)", s.value(4, m, GREATEST, 0), threes[m]);
            due("work(4, " + m + ", ..)", s.value(4, m, LEAST, 1), m / 2 + 1);
        }
        due("value(5, 8, 3, 0)", s.value(5, 8, 3, 0), 7);
        due("value(5, 9, 3, 0)", s.value(5, 9, 3, 0), 0);
        due("value(0, -1, 0, 0)", s.value(0, -1, 0, 0), OUTSIDE);
        due("value(0, 10, 0, 0)", s.value(0, 10, 0, 0), OUTSIDE);
        due("value(0, 0, -1, 0)", s.value(0, 0, -1, 0), OUTSIDE);
        due("value(0, 0, 10, 0)", s.value(0, 0, 10, 0), OUTSIDE);
        due("value(1, 0, 10, 0)", s.value(1, 0, 10, 0), 0);
        due("value(1, 0, 0, 2)", s.value(1, 0, 0, 2), OUTSIDE);
        due("value(1, 0, 0, -1)", s.value(1, 0, 0, -1), OUTSIDE);
        due("value(6, 10, 10, 2)", s.value(6, 10, 10, 2), UNKNOWN);
        due("value(-1, 0, 0, 0)", s.value(-1, 0, 0, 0), UNKNOWN);
        greatNumbers();
        // An argument that no body needs is computed, too.
        s = with("11Z;Sax", "21Z;Z", "11Z;bZaaaSSSx");
        due("value(2, 3, 0, 1)", s.value(2, 3, 0, 1), 1 + 1 + 3 * 6);
    }

    /** a(8) = 73, b(3) = 97, c(2) = 99, c(3) = 100. */
    private static void greatNumbers() {
        Subject s = with("11" + times("S", 9) + "Z;" + times("S", 8) + "ax",
                "11a" + times("S", 8) + "Z;" + times("S", 8) + "bx", "11bSSSZ;Scx", "21Z;Z", "11Z;dZcSSSZ");
        due("value(0, 8, 0, 0)", s.value(0, 8, 0, 0), 73);
        due("value(1, 3, 0, 0)", s.value(1, 3, 0, 0), 97);
        due("value(1, 4, 0, 0)", s.value(1, 4, 0, 0), NONE);
        due("value(2, 2, 0, 0)", s.value(2, 2, 0, 0), 99);
        due("value(2, 2, 0, 1)", s.value(2, 2, 0, 1), 3 + 4 + 9);
        due("value(2, 3, 0, 0)", s.value(2, 3, 0, 0), NONE);
        due("value(2, 3, 0, 1)", s.value(2, 3, 0, 1), NONE);
        due("100 in an argument that is not needed", s.value(4, 1, 0, 0), NONE);
    }

    /** Six functions, each of which ends with the one before it: so calls nest as deep as the work allows. */
    private static Subject chain(String first, String start, String step) {
        Subject s = with(first);
        for (char letter = 'b'; letter <= 'f'; letter++) {
            String text = first.substring(0, 2) + (char) (letter - 1) + start + ";" + step.replace('@', letter);
            due(text, define(s, text), letter - 'a');
        }
        return s;
    }

    private static void deepValues() {
        promise = 11;
        // f(m) is 40 + m, with the work 46 + m, and all calls are within one another.
        Subject s = chain("11Z;Sax", times("S", 8) + "Z", "S@x");
        due("value(5, 9, 0, 0)", s.value(5, 9, 0, 0), 49);
        due("value(5, 9, 0, 1)", s.value(5, 9, 0, 1), 55);
        claimed(s, "f" + times("S", 14) + "x=" + times("S", 10) + "e" + times("S", 8) + "x");
        due("60 calls", s.holds(0, 0, 0), 0);
        due("61 calls", s.holds(1, 0, 0), NONE);
        // Bodies with 10 symbols each; f(m, n) has the work 41 + m.
        s = chain("21Z;ax" + times("S", 7) + "Z", times("S", 7) + "ZZ", "@x" + times("S", 7) + "Z");
        claimed(s, "f" + times("S", 17) + "xx=Z");
        due("60 calls", s.holds(2, 0, 0), 1);
        due("61 calls", s.holds(3, 0, 0), NONE);
    }

    private static void holds() {
        promise = 11;
        Subject s = with(ADD, "11Z;Sbx", "11b" + times("S", 8) + "Z;bcx");
        due("holds(0, 0, 0)", s.holds(0, 0, 0), STATE);
        due("holds(6, 0, 0)", s.holds(6, 0, 0), OUTSIDE);
        claimed(s, "axy=Sz");
        due("holds(2, 4, 5)", s.holds(2, 4, 5), 1);
        due("holds(2, 3, 5)", s.holds(2, 3, 5), 0);
        due("holds(4, 2, 5)", s.holds(4, 2, 5), 1);
        due("holds(5, 5, 5)", s.holds(5, 5, 5), 0);
        for (int bad : new int[] {-1, 6, LEAST, GREATEST}) {
            due("holds x", s.holds(bad, 0, 0), OUTSIDE);
            due("holds y", s.holds(0, bad, 0), OUTSIDE);
            due("holds z", s.holds(0, 0, bad), OUTSIDE);
        }
        claimed(s, "cSx=cSx");
        due("holds(4, 0, 0)", s.holds(4, 0, 0), 1);
        due("holds(5, 0, 0)", s.holds(5, 0, 0), NONE);
        claimed(s, "Z=cSx");
        due("holds(5, 0, 0)", s.holds(5, 0, 0), NONE);
        // Each side has its own work.
        claimed(s, "cx=cx");
        due("holds(5, 0, 0)", s.holds(5, 0, 0), 1);
    }

    private static void counter() {
        promise = 12;
        Subject s = with(ADD, "12Z;Z;Sbx", "11Z;Scx", "11c" + times("S", 8) + "Z;cdx", "11Z;x");
        due("counter(0)", s.counter(0), STATE);
        due("counter(3)", s.counter(3), OUTSIDE);
        Object[][] rows = {
            {"axy=x", 0, 1, 0}, {"axy=y", 1, 0, 0}, {"z=Z", 0, 0, 1}, {"y=z", 0, 0, 1}, {"x=SSz", 0, 0, 0},
            {"axy=ayx", NONE, NONE, NONE}, {"bbx=Z", NONE, NONE, NONE}, {"bx=Z", 2, 0, 0}, {"Z=SZ", 0, 0, 0},
            {"SSx=axx", 0, 0, 0}, {"by=bz", 0, 0, 2}, {"x=x", NONE, NONE, NONE},
            {"eex=Z", NONE, NONE, NONE}, {"eey=Z", NONE, NONE, NONE}, {"eez=Z", NONE, NONE, NONE},
            {"ex=Z", 2, 0, 0}, {"ey=Z", 0, 2, 0}, {"ez=Z", 0, 0, 2},
        };
        for (int r = 0; r < rows.length; r++) {
            claimed(s, (String) rows[r][0]);
            for (int v = 0; v < 3; v++) {
                due("counter(" + v + ") of " + rows[r][0], s.counter(v), (Integer) rows[r][1 + v]);
            }
        }
        // d(m) is 8, with the work 10 * (m + 1): not defined from x = 2 on.
        claimed(s, "dSSSSx=" + times("S", 8) + "x");
        due("counter(0)", s.counter(0), 1);
        claimed(s, "dSSSSSx=" + times("S", 8) + "x");
        due("counter(0) where only 0 is defined", s.counter(0), NONE);
        due("counter(-1)", s.counter(-1), OUTSIDE);
        due("counter(3)", s.counter(3), OUTSIDE);
    }

    private static void normalIs(Subject s, int which, String text) {
        due("size of " + text, s.normal(which, NONE), text.length());
        for (int i = 0; i <= text.length() && i < 40; i++) {
            due("normal form " + text, s.normal(which, i), i < text.length() ? text.charAt(i) : NONE);
        }
    }

    private static void normal() {
        promise = 13;
        // Addition, the identity, four times, a half, and addition by steps of two.
        Subject s = with(ADD, "11Z;Sbx", "11Z;SSSScx", "12Z;Z;Sdx", "22y;Sy;SSexy");
        due("normal(0, 0)", s.normal(0, 0), STATE);
        due("normal(2, 0)", s.normal(2, 0), OUTSIDE);
        claimed(s, "aSSxy=aaxSyz");
        normalIs(s, 0, "SSaxy");
        normalIs(s, 1, "aaxSyz");
        due("normal(-1, 0)", s.normal(-1, 0), OUTSIDE);
        due("normal(0, -1)", s.normal(0, -1), OUTSIDE);
        due("normal(0, -8)", s.normal(0, -8), OUTSIDE);
        due("normal(0, 40)", s.normal(0, 40), OUTSIDE);
        claimed(s, "dSx=dSSSx");
        normalIs(s, 0, "dSx");
        normalIs(s, 1, "SdSx");
        claimed(s, "eSaSZxy=aeSSxyeZz");
        normalIs(s, 0, "SSexy");
        normalIs(s, 1, "SSaexyz");
        // 5 * 10 bodies are used; then 3 * 17.
        claimed(s, "bbbbb" + times("S", 10) + "x=bbb" + times("S", 16) + "Z");
        normalIs(s, 0, times("S", 10) + "bbbbbx");
        due("51 bodies", s.normal(1, NONE), STATE);
        due("51 bodies", s.normal(1, 0), STATE);
        due("51 bodies", s.normal(1, 40), OUTSIDE);
        claimed(s, "SSc" + times("S", 9) + "x=SSSc" + times("S", 9) + "x");
        normalIs(s, 0, times("S", 38) + "cx");
        due("41 symbols", s.normal(1, NONE), STATE);
        // A normal form on the way counts, too, even if it is not needed at last.
        due("Z;Z", define(s, "21Z;Z"), 5);
        claimed(s, "fZSSSc" + times("S", 9) + "x=fZSSc" + times("S", 9) + "x");
        due("41 symbols on the way", s.normal(0, NONE), STATE);
        normalIs(s, 1, "Z");
    }

    private static void deepNormalForms() {
        promise = 13;
        Subject s = chain("11Z;ax", times("S", 8) + "Z", "@x");
        claimed(s, "fSSSSZ=fSSSSSZ");
        normalIs(s, 0, "Z");
        due("51 bodies", s.normal(1, NONE), STATE);
        s = chain("21Z;ax" + times("S", 7) + "Z", times("S", 7) + "ZZ", "@x" + times("S", 7) + "Z");
        claimed(s, "SSSSSSSf" + times("S", 9) + "ZZ=f" + times("S", 10) + "ZZ");
        normalIs(s, 0, "SSSSSSSZ");
        due("51 bodies", s.normal(1, NONE), STATE);
        // 40 symbols and 41, with each kind of leaf.
        s = with("11Z;SSSSax");
        for (String v : new String[] {"x", "y", "z"}) {
            claimed(s, "SSSa" + times("S", 9) + v + "=SSa" + times("S", 9) + v);
            due("41 symbols", s.normal(0, NONE), STATE);
            normalIs(s, 1, times("S", 38) + "a" + v);
        }
        claimed(s, "SSSSa" + times("S", 9) + "Z=SSSa" + times("S", 9) + "Z");
        due("41 symbols", s.normal(0, NONE), STATE);
        normalIs(s, 1, times("S", 39) + "Z");
    }

    private static void schemeIs(Subject s, String text, int variable, int depth, int calls) {
        claimed(s, text);
        due("scheme(0) of " + text, s.scheme(0), variable);
        due("scheme(1) of " + text, s.scheme(1), depth);
        due("scheme(2) of " + text, s.scheme(2), calls);
    }

    private static void scheme() {
        promise = 14;
        Subject s = with(ADD, "12Z;Z;Sbx", "11Z;Scx");
        due("scheme(0)", s.scheme(0), STATE);
        due("scheme(3)", s.scheme(3), OUTSIDE);
        schemeIs(s, "axZ=x", 0, 1, 1);
        schemeIs(s, "axy=ayx", 0, 1, 1);
        schemeIs(s, "ayx=ayx", 1, 1, 2);
        schemeIs(s, "bx=cy", 1, 1, 1);
        schemeIs(s, "bx=bz", 0, 2, 1);
        schemeIs(s, "abxcx=by", 0, 2, 2);
        schemeIs(s, "abxcx=aczcz", 2, 1, 2);
        schemeIs(s, "abxcx=aczaczbz", 2, 2, 3);
        schemeIs(s, "aSxy=Sx", NONE, NONE, NONE);
        schemeIs(s, "bSx=Z", NONE, NONE, NONE);
        schemeIs(s, "aZx=ccZ", NONE, NONE, NONE);
        due("scheme(-1)", s.scheme(-1), OUTSIDE);
        due("scheme(3)", s.scheme(3), OUTSIDE);
    }

    private static void difference() {
        promise = 15;
        Subject s = with(ADD, DOUBLE);
        due("difference()", s.difference(), STATE);
        Object[][] rows = {
            {"axSy=axy", 1}, {"Saxy=axy", 0}, {"aSxSy=axy", 2}, {"aSSxy=axy", 3}, {"x=x", 0}, {"x=y", NONE},
            {"aaxyz=axz", 1}, {"aaxyz=ayz", 1}, {"aaxyz=axy", 0}, {"aaxyz=y", 1}, {"axSx=x", 0}, {"aSxx=x", 0},
            {"aSxSx=x", 1}, {"axy=Saxy", NONE}, {"axy=ayx", NONE}, {"SSSx=SSx", 0}, {"SSSx=Sx", 1}, {"SSSx=x", 3},
            {"bSSbSx=bbx", 1 + 2 + 4}, {"abxSby=abxby", 1}, {"aaxxaxx=axx", 0}, {"abSxbx=abxx", 2 + 1},
            {"Sbabxby=bbx", 2}, {"Z=Z", 0}, {"SZ=x", NONE},
        };
        for (Object[] row : rows) {
            claimed(s, (String) row[0]);
            due("difference() of " + row[0], s.difference(), (Integer) row[1]);
        }
    }

    private static void steeredIs(Subject s, String claim, String result) {
        claimed(s, claim);
        due("size of " + result, s.steered(NONE), result.length());
        for (int i = 0; i <= result.length() && i < 40; i++) {
            due("steered, " + result, s.steered(i), i < result.length() ? result.charAt(i) : NONE);
        }
        due("the claim stays", s.side(0, 0), claim.charAt(0));
        due("the claim stays", s.side(0, claim.indexOf('=')), NONE);
    }

    private static void steered() {
        promise = 16;
        Subject s = with(ADD, DOUBLE);
        due("steered(0)", s.steered(0), STATE);
        due("steered(40)", s.steered(40), OUTSIDE);
        claimed(s, "axy=ayx");
        due("steered(-9), not embedded", s.steered(NONE), STATE);
        due("steered(0), not embedded", s.steered(0), STATE);
        due("steered(-1), not embedded", s.steered(-1), OUTSIDE);
        steeredIs(s, "axSy=axy", "axSy");
        proved(s, "axSy=Saxy");
        steeredIs(s, "axSy=axy", "Saxy");
        steeredIs(s, "axSSy=axy", "SSaxy");
        steeredIs(s, "azaxSy=azaxy", "Sazaxy");
        // The bare S stays where it is, for moving it out would not make the difference smaller.
        steeredIs(s, "SaSaxxSx=aaxxx", "SaSaxxSx");
        steeredIs(s, "axSy=axSy", "axSy");
        // The other direction, with the sides of the lemma the other way round.
        due("back()", s.back(), 0);
        proved(s, "Saxy=axSy");
        steeredIs(s, "azaxSy=azaxy", "Sazaxy");
        // From a single variable nothing goes.
        due("back()", s.back(), 0);
        proved(s, "x=axZ");
        steeredIs(s, "SSaxZ=Sx", "SSx");
        steeredIs(s, "SSx=x", "SSx");
        due("steered(-1)", s.steered(-1), OUTSIDE);
        due("steered(40)", s.steered(40), OUTSIDE);
    }

    private static void steeredDirections() {
        promise = 16;
        // Going from x to axZ would make aaxSSZZ, with the difference 1 instead of 3.
        Subject s = with(ADD, "21Z;aybxy");
        proved(s, "x=axZ");
        steeredIs(s, "axSSZ=axZ", "axSSZ");
        due("back()", s.back(), 0);
        proved(s, "axZ=x");
        steeredIs(s, "axSSZ=axZ", "axSSZ");
        due("back()", s.back(), 0);
        // Going from Z to bZx, or bZy, would make abZxSSbZx, with the difference 0 instead of 3.
        for (String v : new String[] {"x", "y", "z"}) {
            for (String text : new String[] {"bZ" + v + "=Z", "Z=bZ" + v}) {
                proved(s, text);
                steeredIs(s, "aZSSbZ" + v + "=bZ" + v, "aZSSbZ" + v);
                due("back()", s.back(), 0);
            }
        }
        // Z alone may be gone from, if the other side has no variables.
        proved(s, "bZSZ=Z");
        steeredIs(s, "aZSSbZSZ=bZSZ", "abZSZSSbZSZ");
    }

    /** The lemma makes the terms longer: a T a T c x T has 40 symbols if T has 12, and 43 if T has 13. */
    private static void steeredLimit() {
        promise = 16;
        Subject s = with(ADD, DOUBLE, "21y;aycxy");
        proved(s, "cSxy=aycxy");
        String t = times("S", 11) + "y";
        steeredIs(s, "cSSx" + t + "=cx" + t, "a" + t + "a" + t + "cx" + t);
        t = times("S", 12) + "y";
        steeredIs(s, "cSSx" + t + "=cx" + t, "a" + t + "cSx" + t);
    }

    private static void commonIs(Subject s, String claim, String result, String left, String right) {
        promise = 17;
        claimed(s, claim);
        due("size of " + result, s.common(NONE), result.isEmpty() ? NONE : result.length());
        for (int i = 0; i <= result.length() && i < 20; i++) {
            due("common of " + claim, s.common(i), i < result.length() ? result.charAt(i) : NONE);
        }
        promise = 18;
        String[] sides = {left, right};
        for (int which = 0; which < 2; which++) {
            due("general, size of " + sides[which], s.general(which, NONE), sides[which].length());
            for (int i = 0; i <= sides[which].length() && i < 20; i++) {
                int want = i < sides[which].length() ? sides[which].charAt(i) : NONE;
                due("general of " + claim, s.general(which, i), want);
            }
        }
    }

    private static void common() {
        promise = 17;
        Subject s = with(ADD, DOUBLE);
        due("common(0)", s.common(0), STATE);
        due("common(-9)", s.common(NONE), STATE);
        due("common(20)", s.common(20), OUTSIDE);
        due("common(-1)", s.common(-1), OUTSIDE);
        commonIs(s, "aaxybz=baxy", "axy", "aaxybz", "baxy");
        commonIs(s, "aaxybx=baxy", "axy", "azbx", "bz");
        commonIs(s, "abxby=abybx", "bx", "azby", "abyz");
        commonIs(s, "abyabyby=bby", "by", "axaxx", "bx");
        commonIs(s, "aabxabybybx=aabybyabxbx", "abyby", "aabxzbx", "azabxbx");
        commonIs(s, "Saxy=Sayx", "", "Saxy", "Sayx");
        commonIs(s, "SSx=Sx", "", "SSx", "Sx");
        commonIs(s, "bz=bz", "bz", "x", "x");
        commonIs(s, "bbx=bx", "bx", "by", "y");
        due("common(20)", s.common(20), OUTSIDE);
        due("common(-1)", s.common(-1), OUTSIDE);
    }

    private static void general() {
        promise = 18;
        Subject s = with(ADD);
        due("general(0, 0)", s.general(0, 0), STATE);
        due("general(0, -9)", s.general(0, NONE), STATE);
        due("general(2, 0)", s.general(2, 0), OUTSIDE);
        due("general(-1, 0)", s.general(-1, 0), OUTSIDE);
        due("general(0, 20)", s.general(0, 20), OUTSIDE);
        due("general(0, -1)", s.general(0, -1), OUTSIDE);
        claimed(s, "axy=Saxy");
        due("general(1, 1)", s.general(1, 1), 'z');
        due("general(1, 2)", s.general(1, 2), NONE);
        due("general(1, 20)", s.general(1, 20), OUTSIDE);
        due("the claim stays", s.side(1, 1), 'a');
    }

    private static void proveProved() {
        promise = 19;
        Subject s = with(ADD, DOUBLE);
        due("prove()", s.prove(), STATE);
        claimed(s, "aSxy=Saxy");
        due("prove()", s.prove(), 0);
        scriptIs(s, "0:0 1:0 7:0");
        lemmaIs(s, 0, "aSxy=Saxy");
        due("back()", s.back(), 0);
        proved(s, "axSy=Saxy");
        scriptIs(s, "0:0 2:10 3:0 3:1 5:0 7:0");
        proved(s, "bx=axx");
        scriptIs(s, "0:0 2:10 3:0 3:1 4:10 5:0 7:0");
        proved(s, "axy=ayx");
        scriptIs(s, "0:0 2:10 3:0 6:-9 0:1 2:11 3:0 3:1 5:0 7:1 3:1 4:10 5:0 7:0");
        lemmaIs(s, 2, "y=ayZ");
        lemmaIs(s, 3, "axy=ayx");
        due("many(1)", s.many(1), 4);
        // The same once more: nothing new is kept. The lemma y=ayZ does not help in the case 0, where nothing ripples.
        due("prove()", s.prove(), 0);
        due("many(1)", s.many(1), 4);
        due("the claim stays", s.side(1, 1), 'y');
        // Depth 2: three cases, and the hypothesis is used in the last one.
        s = with("22y;Sy;SSaxy");
        proved(s, "axSy=Saxy");
        scriptIs(s, "0:0 2:20 3:0 3:1 3:2 5:0 7:0");
        // The left side is the induction variable, which is fixed and matches only itself.
        s = with(ADD);
        proved(s, "x=axZ");
        scriptIs(s, "0:0 2:10 3:0 3:1 5:0 7:0");
        claimed(s, "x=x");
        due("prove()", s.prove(), 0);
        due("many(1)", s.many(1), 1);
    }

    private static void proveRefutedAndStuck() {
        promise = 19;
        Subject s = with(ADD);
        claimed(s, "axy=x");
        due("prove()", s.prove(), 1);
        scriptIs(s, "0:0 8:1");
        causesAre(s, 1);
        // There is no body for Sx, and x itself is no first argument.
        s = with("12Z;Z;ax");
        claimed(s, "aSx=Z");
        due("prove()", s.prove(), 2);
        scriptIs(s, "0:0 8:2");
        causesAre(s, 2);
        // A half of a half is Z up to 3; a greater counterexample is found in the step.
        s = with("12Z;Z;Sax");
        claimed(s, "aax=Z");
        due("prove()", s.prove(), 2);
        scriptIs(s, "0:0 2:20 3:0 3:1 3:2 5:1 6:-9 0:1 8:1 8:2");
        causesAre(s, 2, 1);
        // An accumulator: the guesses become longer and longer.
        s = with("21y;axSy");
        claimed(s, "axZ=x");
        due("prove()", s.prove(), 2);
        scriptIs(s, "0:0 2:10 3:0 3:1 5:1 6:-9 0:1 2:10 3:0 3:1 6:-9 0:2 2:10 3:0 3:1 8:2 8:2 8:2");
        causesAre(s, 2, 2, 2, 4);
        due("many(1)", s.many(1), 0);
    }

    /** cy is never defined, so nothing with cy has a counterexample. */
    private static Subject withUndefined(String fourth) {
        String body = "b" + times("S", 8) + "Z";
        return with("11Z;SSSSax", "11SZ;abx", "11" + body + ";" + body, fourth, "21y;exy");
    }

    private static void proveOverflow() {
        promise = 19;
        Subject s = with("11Z;Sax");
        String term = "aaa" + times("S", 16) + "Z";
        claimed(s, term + "=" + term);
        due("prove(), 51 bodies", s.prove(), 3);
        scriptIs(s, "0:0");
        causesAre(s, 3);
        due("many(1)", s.many(1), 0);
        // The use of the claim makes 41 symbols: 4, and 37 of the right side.
        s = withUndefined("21a" + times("S", 8) + "y;SSSSdxy");
        claimed(s, "dxcy=exa" + times("S", 8) + "cy");
        due("prove(), 41 symbols", s.prove(), 3);
        scriptIs(s, "0:0 2:10 3:0 3:1");
        causesAre(s, 3);
        // Here it makes just 40; later on, cZ overflows at level 2.
        s = withUndefined("21a" + times("S", 8) + "y;SSSdxy");
        claimed(s, "dxcy=exa" + times("S", 8) + "cy");
        due("prove(), 40 symbols", s.prove(), 3);
        scriptIs(s, "0:0 2:10 3:0 3:1 5:0 6:-9 0:1 2:10 3:0 6:-9 0:2 2:11 3:0");
        causesAre(s, 3);
        // After a failure the next attempt starts with an empty script.
        claimed(s, "x=x");
        due("prove()", s.prove(), 0);
        scriptIs(s, "0:0 1:0 7:0");
        causesAre(s);
    }

    private static void generalizedGuess() {
        promise = 19;
        Subject s = with(ADD);
        proved(s, "axSy=Saxy");
        proved(s, "aaxxx=axaxx");
        scriptIs(s, "0:0 2:10 3:0 3:1 4:0 4:10 4:10 4:10 5:1 6:1 0:1 2:11 3:0 3:1 5:0 7:1 7:0");
        lemmaIs(s, 1, "SSaySx=SSSayx");
        lemmaIs(s, 2, "aaxxx=axaxx");
    }

    private static void why() {
        promise = 20;
        Subject s = with(ADD);
        causesAre(s);
        due("why(-1)", s.why(-1), OUTSIDE);
        due("why(10)", s.why(10), OUTSIDE);
        claimed(s, "Sx=x");
        causesAre(s);
        due("prove()", s.prove(), 1);
        causesAre(s, 1);
        // Reading a claim, and a prove() that is not possible, leave the causes.
        claimed(s, "axZ=x");
        causesAre(s, 1);
        due("prove()", s.prove(), 0);
        causesAre(s);
        due("why(-9)", s.why(NONE), OUTSIDE);
        due("why(MAX)", s.why(GREATEST), OUTSIDE);
    }

    private static void script() {
        promise = 21;
        Subject s = with(ADD);
        due("script(0, 0)", s.script(0, 0), NONE);
        proved(s, "axSy=Saxy");
        int[] kinds = {0, 2, 3, 3, 5, 7}, numbers = {0, 10, 0, 1, 0, 0};
        for (int k = 0; k < 99; k++) {
            due("script(" + k + ", 0)", s.script(k, 0), k < 6 ? kinds[k] : NONE);
            due("script(" + k + ", 1)", s.script(k, 1), k < 6 ? numbers[k] : NONE);
        }
        due("script(-1, 0)", s.script(-1, 0), OUTSIDE);
        due("script(99, 0)", s.script(99, 0), OUTSIDE);
        due("script(0, -1)", s.script(0, -1), OUTSIDE);
        due("script(0, 2)", s.script(0, 2), OUTSIDE);
        due("script(98, 2)", s.script(98, 2), OUTSIDE);
        // So many steps of rippling that more than 99 notes are written.
        claimed(s, "aaxaxaxxaxaxaxx=axaxaaxxaxaxaxx");
        due("prove()", s.prove(), 2);
        due("many(3)", s.many(3), 99);
        due("script(98, 0)", s.script(98, 0), 4);
        due("script(98, 1)", s.script(98, 1), 10);
        due("script(99, 0)", s.script(99, 0), OUTSIDE);
        causesAre(s, 2, 2, 2, 4);
        due("back()", s.back(), 0);
        due("the script stays", s.script(0, 0), 0);
    }

    private static void lemma() {
        promise = 22;
        Subject s = with(ADD);
        due("lemma(0, 2, 40)", s.lemma(0, 2, 40), UNKNOWN);
        proved(s, "axSy=Saxy");
        lemmaIs(s, 0, "axSy=Saxy");
        due("lemma(0, 0, 39)", s.lemma(0, 0, 39), NONE);
        due("lemma(0, 0, 40)", s.lemma(0, 0, 40), OUTSIDE);
        due("lemma(0, 0, -1)", s.lemma(0, 0, -1), OUTSIDE);
        due("lemma(0, 2, 0)", s.lemma(0, 2, 0), OUTSIDE);
        due("lemma(0, -1, 0)", s.lemma(0, -1, 0), OUTSIDE);
        due("lemma(1, 2, 0)", s.lemma(1, 2, 0), UNKNOWN);
        due("lemma(-1, 0, 0)", s.lemma(-1, 0, 0), UNKNOWN);
    }

    private static void lemmaLimits() {
        promise = 22;
        Subject s = with(ADD);
        String[] claims = {"aZx=x", "x=aZx", "aZy=y", "aZz=z", "aSZx=Sx", "aSZy=Sy", "aSZz=Sz", "aSSZx=SSx"};
        for (int n = 0; n < 8; n++) {
            proved(s, claims[n]);
            due("many(1)", s.many(1), n + 1);
            due("prove() again", s.prove(), 0);
            due("many(1)", s.many(1), n + 1);
        }
        proved(s, "aSSZy=SSy");
        due("many(1)", s.many(1), 8);
        for (int n = 0; n < 8; n++) {
            lemmaIs(s, n, claims[n]);
        }
        due("back()", s.back(), 7);
        due("prove()", s.prove(), 0);
        lemmaIs(s, 7, "aSSZy=SSy");
    }

    private static void tested() {
        promise = 23;
        // The work for c(m) is 10 * (m + 1), so the last lemma is not defined where x + y is 5 or 6.
        Subject s = with(ADD, "11Z;Sbx", "11b" + times("S", 8) + "Z;bcx");
        due("tested(0, 3)", s.tested(0, 3), UNKNOWN);
        proved(s, "axSy=Saxy");
        proved(s, "caxy=cayx");
        lemmaIs(s, 1, "cy=cayZ");
        int[][] counts = {{64, 0, 0}, {64, 0, 0}, {52, 0, 12}};
        for (int k = 0; k < 3; k++) {
            for (int what = 0; what < 3; what++) {
                due("tested(" + k + ", " + what + ")", s.tested(k, what), counts[k][what]);
            }
        }
        due("tested(0, 3)", s.tested(0, 3), OUTSIDE);
        due("tested(0, -1)", s.tested(0, -1), OUTSIDE);
        due("tested(3, 3)", s.tested(3, 3), UNKNOWN);
        due("tested(-1, 0)", s.tested(-1, 0), UNKNOWN);
    }

    /** The same function: c(m) is defined up to 5, and b(c(m)) up to 4. */
    private static void testedVariables() {
        promise = 23;
        Subject s = with(ADD, "11Z;Sbx", "11b" + times("S", 8) + "Z;bcx");
        proved(s, "cSSSx=bcSSx");
        proved(s, "cSSSy=bcSSy");
        proved(s, "cSSSz=bcSSz");
        proved(s, "caSxayz=bcaxayz");
        for (int k = 0; k < 4; k++) {
            // With x, y and z the sum must not be greater than 3.
            due("tested(" + k + ", 0)", s.tested(k, 0), k < 3 ? 48 : 20);
            due("tested(" + k + ", 1)", s.tested(k, 1), 0);
            due("tested(" + k + ", 2)", s.tested(k, 2), k < 3 ? 16 : 44);
        }
    }

    private static void back() {
        promise = 24;
        Subject s = with(ADD);
        due("back()", s.back(), STATE);
        proved(s, "axSy=Saxy");
        proved(s, "axZ=x");
        due("back()", s.back(), 1);
        lemmaIs(s, 0, "axSy=Saxy");
        due("lemma(1, 0, 0)", s.lemma(1, 0, 0), UNKNOWN);
        due("back()", s.back(), 0);
        due("back()", s.back(), STATE);
        due("many(1)", s.many(1), 0);
    }

    private static void many() {
        promise = 25;
        Subject s = with(ADD, DOUBLE);
        proved(s, "axSy=Saxy");
        due("many(0)", s.many(0), 2);
        due("many(1)", s.many(1), 1);
        due("many(2)", s.many(2), 9);
        due("many(3)", s.many(3), 6);
        due("many(4)", s.many(4), OUTSIDE);
        due("many(-1)", s.many(-1), OUTSIDE);
        due("many(MAX)", s.many(GREATEST), OUTSIDE);
    }
}
