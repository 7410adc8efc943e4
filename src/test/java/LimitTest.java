/** The limits of values, counterexamples, normal forms, rippling and generalization, each on both of its sides. */
public final class LimitTest extends Checks {
    // The identity, for which m costs m + 1 calls.
    private static final String IDENTITY = "11Z;Sax";
    // Z for all arguments, for one call.
    private static final String FORGET = "21Z;Z";

    public static void main(String[] args) {
        work();
        workOfSides();
        greatNumbers();
        bodiesByArgument();
        holdsRange();
        counterRange();
        counterOrder();
        counterUndefined();
        normalBodies();
        normalSymbols();
        normalWithoutBody();
        normalPlaces();
        scheme();
        difference();
        embedding();
        steeredSymbols();
        steeredChoice();
        steeredOrder();
        steeredMatch();
        steeredPlaces();
        common();
        generalWithout();
        generalVariable();
        testedRange();
        end();
    }

    private static void workIs(Subject s, int f, int m, int want) {
        due("work(" + f + ", " + m + ")", s.value(f, m, 0, 1), want);
        due("value(" + f + ", " + m + ") is defined", s.value(f, m, 0, 0) == NONE ? 0 : 1, want == NONE ? 0 : 1);
    }

    private static void work() {
        says(10, "The value is not defined if the work is greater than 60");
        // b(m) has the work 10 * (m + 1), and c(m + 1) one more call than b(m).
        Subject s = with(IDENTITY, "11a" + times("S", 8) + "Z;abx", "11Z;Sbx", "12Z;Z;aZ");
        workIs(s, 1, 4, 50);
        workIs(s, 1, 5, 60);
        workIs(s, 1, 6, NONE);
        workIs(s, 2, 5, 51);
        workIs(s, 2, 6, NONE);
        workIs(s, 3, 0, 1);
        workIs(s, 3, 1, 1);
        workIs(s, 3, 2, 2);
        // 59, 60 and 61 calls that are all within one another.
        s = with("11Z;ax", "11a" + times("S", 8) + "Z;bx", "11b" + times("S", 8) + "Z;cx", "11c" + times("S", 8) + "Z;dx",
                "11d" + times("S", 8) + "Z;ex", "11e" + times("S", 8) + "Z;fx");
        claimed(s, "f" + times("S", 12) + "x=Z");
        due("59 calls", s.holds(1, 0, 0), 1);
        due("60 calls", s.holds(2, 0, 0), 1);
        due("61 calls", s.holds(3, 0, 0), NONE);
        says(10, "or the work for it, including the call of the function itself");
        s = with("11Z;x", "11aZ;ax");
        workIs(s, 0, 0, 1);
        workIs(s, 0, 9, 1);
        workIs(s, 1, 0, 2);
        workIs(s, 1, 9, 2);
    }

    private static void workOfSides() {
        says(11, "NONE if one of them is not defined");
        Subject s = with(IDENTITY, FORGET);
        String heavy = "aaaa" + times("S", 9) + "x";
        claimed(s, heavy + "=" + heavy);
        due("60 calls for each side", s.holds(5, 0, 0), 1);
        claimed(s, "b" + heavy + "Z=Z");
        due("57 calls", s.holds(4, 0, 0), 1);
        due("61 calls", s.holds(5, 0, 0), NONE);
        claimed(s, "Z=b" + heavy + "Z");
        due("57 calls", s.holds(4, 0, 0), 1);
        due("61 calls", s.holds(5, 0, 0), NONE);
        says(11, "the values of all its arguments are computed first, each once, whether they are needed or not");
        claimed(s, "bZb" + heavy + "Z=Z");
        due("58 calls", s.holds(4, 0, 0), 1);
        due("62 calls, 61 of them for what is not needed", s.holds(5, 0, 0), NONE);
        says(12, "for which the values of both sides are defined (each side with its own work) and different");
        claimed(s, "aaaa" + times("S", 12) + "x=S" + "aaaa" + times("S", 12) + "x");
        due("56 calls for each side", s.counter(0), 0);
        claimed(s, "aaaa" + times("S", 14) + "x=x");
        due("60 calls", s.counter(0), 0);
        claimed(s, "aaaa" + times("S", 15) + "x=x");
        due("64 calls", s.counter(0), NONE);
    }

    /** c(2) = 99, c(3) = 100. */
    private static void greatNumbers() {
        says(11, "or if a number greater than 99 occurs");
        Subject s = with("11" + times("S", 9) + "Z;" + times("S", 8) + "ax",
                "11a" + times("S", 8) + "Z;" + times("S", 8) + "bx", "11bSSSZ;Scx", FORGET, "11Z;ex");
        due("value(2, 1, 0, 0)", s.value(2, 1, 0, 0), 98);
        due("value(2, 2, 0, 0)", s.value(2, 2, 0, 0), 99);
        due("value(2, 2, 0, 1)", s.value(2, 2, 0, 1), 16);
        due("value(2, 3, 0, 0)", s.value(2, 3, 0, 0), NONE);
        due("value(2, 3, 0, 1)", s.value(2, 3, 0, 1), NONE);
        claimed(s, "cx=cx");
        due("99", s.holds(2, 0, 0), 1);
        due("100", s.holds(3, 0, 0), NONE);
        claimed(s, "Scx=Z");
        due("99", s.holds(1, 0, 0), 0);
        due("100", s.holds(2, 0, 0), NONE);
        claimed(s, "Z=Scx");
        due("99", s.holds(1, 0, 0), 0);
        due("100", s.holds(2, 0, 0), NONE);
        claimed(s, "dZScx=Z");
        due("99, not needed", s.holds(1, 0, 0), 1);
        due("100, not needed", s.holds(2, 0, 0), NONE);
        claimed(s, "dScxZ=Z");
        due("99, as a first argument", s.holds(1, 0, 0), 1);
        due("100, as a first argument", s.holds(2, 0, 0), NONE);
    }

    private static void bodiesByArgument() {
        says(10, "For depth 2, if it is S of Z, the value is the second body; if it is S of S of something, the last body");
        Subject s = with("22y;SSSSy;Sx", "21SSSy;x", "12SSSZ;Z;x", "11SZ;x");
        int[][] values = {{7, 11, 1, 2, 3, 4, 5, 6, 7, 8}, {10, 0, 1, 2, 3, 4, 5, 6, 7, 8}, {3, 0, 0, 1, 2, 3, 4, 5, 6, 7},
            {1, 0, 1, 2, 3, 4, 5, 6, 7, 8}};
        for (int f = 0; f < 4; f++) {
            for (int m = 0; m < 10; m++) {
                due("value(" + f + ", " + m + ", 7, 0)", s.value(f, m, 7, 0), values[f][m]);
                due("value(" + f + ", " + m + ", 7, 1)", s.value(f, m, 7, 1), 1);
            }
        }
        due("value(0, 0, 0, 0)", s.value(0, 0, 0, 0), 0);
        due("value(0, 0, 9, 0)", s.value(0, 0, 9, 0), 9);
        due("value(0, 1, 9, 0)", s.value(0, 1, 9, 0), 13);
        due("value(0, 9, 9, 0)", s.value(0, 9, 9, 0), 8);
    }

    private static void holdsRange() {
        says(11, "Returns 1 if the values of both sides are equal, 0 if not");
        String[] claims = {"x=SSSSSZ", "y=SSSSSZ", "z=SSSSSZ"};
        for (int v = 0; v < 3; v++) {
            Subject s = new Subject();
            claimed(s, claims[v]);
            for (int n = 0; n <= 5; n++) {
                due("holds(..)", s.holds(v == 0 ? n : 0, v == 1 ? n : 0, v == 2 ? n : 0), n == 5 ? 1 : 0);
                due("holds(..), the others", s.holds(v == 0 ? 0 : n, v == 1 ? 0 : n, v == 2 ? 0 : n), 0);
            }
        }
    }

    private static void counterIs(Subject s, String claim, int x, int y, int z) {
        claimed(s, claim);
        due("counter(0) of " + claim, s.counter(0), x);
        due("counter(1) of " + claim, s.counter(1), y);
        due("counter(2) of " + claim, s.counter(2), z);
    }

    /** b is Z up to 1, c up to 2. */
    private static void counterRange() {
        says(12, "The counterexample of a claim consists of numbers from 0 to 2 for x, y and z");
        Subject s = with(ADD, "12Z;Z;Sx", "12Z;Z;x");
        counterIs(s, "bx=Z", 2, 0, 0);
        counterIs(s, "by=Z", 0, 2, 0);
        counterIs(s, "Z=bz", 0, 0, 2);
        counterIs(s, "cx=Z", NONE, NONE, NONE);
        counterIs(s, "cy=Z", NONE, NONE, NONE);
        counterIs(s, "Z=cz", NONE, NONE, NONE);
        due("it does not hold for 3", s.holds(0, 0, 3), 0);
        // At first 2 + 2 + 2 is greater than 5.
        s = with(ADD, "11Z;x", "12Z;Z;bbbx");
        counterIs(s, "caxayz=Z", 2, 2, 2);
        counterIs(s, "bcaxayz=Z", NONE, NONE, NONE);
        says(12, "A variable that occurs in neither side has the number 0.");
        counterIs(s, "Z=SZ", 0, 0, 0);
        counterIs(s, "x=SSZ", 0, 0, 0);
        counterIs(s, "x=y", 0, 1, 0);
        counterIs(s, "y=x", 0, 1, 0);
        counterIs(s, "x=z", 0, 0, 1);
        counterIs(s, "z=y", 0, 0, 1);
        counterIs(s, "bx=bz", 0, 0, 2);
    }

    private static void counterOrder() {
        says(12, "It is the lexicographically first such triple (x, y, z).");
        // c(x, y) = x * y; only 2 * 2 is greater than 3.
        Subject s = with(ADD, "11Z;x", "21Z;aycxy");
        counterIs(s, "axbbbcyz=Z", 0, 2, 2);
        counterIs(s, "aybbbcxz=Z", 0, 1, 0);
        counterIs(s, "azbbbcxy=Z", 0, 0, 1);
        counterIs(s, "aybcxz=y", 1, 0, 2);
        counterIs(s, "abxabyz=z", 0, 2, 0);
        counterIs(s, "cxcyz=Z", 1, 1, 1);
        counterIs(s, "cxbcyz=Z", 1, 1, 2);
    }

    /** c is not defined for 0, d never. */
    private static void counterUndefined() {
        says(12, "NONE if there is no counterexample");
        String never = "b" + times("S", 8) + "Z";
        Subject s = with("11Z;SSSSax", "11SZ;abx", "11" + never + ";x", "11" + never + ";" + never, "12" + never + ";" + never + ";x");
        counterIs(s, "cx=x", 1, 0, 0);
        counterIs(s, "Sx=cy", 0, 1, 0);
        counterIs(s, "cz=cz", NONE, NONE, NONE);
        counterIs(s, "dx=Z", NONE, NONE, NONE);
        counterIs(s, "Sx=dx", NONE, NONE, NONE);
        counterIs(s, "ex=x", 2, 0, 0);
        counterIs(s, "eSx=x", 1, 0, 0);
        due("holds(0, 0, 0)", s.holds(0, 0, 0), NONE);
        due("holds(1, 0, 0)", s.holds(1, 0, 0), 0);
    }

    private static void normalIs(Subject s, String side, String result) {
        claimed(s, side + "=" + side);
        for (int which = 0; which < 2; which++) {
            due("normal(" + which + ", -9) of " + side, s.normal(which, NONE), result == null ? STATE : result.length());
            for (int i = 0; i < (result == null ? 1 : result.length()); i++) {
                due("normal(" + which + ", " + i + ") of " + side, s.normal(which, i), result == null ? STATE : result.charAt(i));
            }
        }
    }

    private static void normalBodies() {
        says(13, "Normalizing overflows if it uses more than 50 bodies altogether");
        // c(m) costs 19 + m bodies.
        Subject s = with(IDENTITY, FORGET, "11aaaSSSSSZ;cx");
        normalIs(s, "aaaaa" + times("S", 10) + "x", times("S", 10) + "aaaaax");
        normalIs(s, "aaaaa" + times("S", 9) + "Z", times("S", 9) + "Z");
        normalIs(s, "aaa" + times("S", 16) + "Z", null);
        normalIs(s, "aaa" + times("S", 16) + "x", times("S", 16) + "aaax");
        normalIs(s, "aaaa" + times("S", 13) + "x", null);
        says(13, "Normalizing overflows if it uses more than 50 bodies altogether (both arguments, and the function itself)");
        normalIs(s, "bcSSSSSZcSSSSSSZ", "Z");
        normalIs(s, "bcSSSSSSZcSSSSSSZ", null);
        normalIs(s, "bcSSSSSZcSSSSSSSZ", null);
        normalIs(s, "baaaaSSSSSZbcSSSZZ", "Z");
        says(13, "Returns the size of the normal form of a side (each side has its own 50 bodies)");
        String fifty = "aaaaa" + times("S", 9) + "Z";
        s = with(IDENTITY);
        claimed(s, fifty + "=" + fifty);
        due("normal(0, -9)", s.normal(0, NONE), 10);
        due("normal(1, -9)", s.normal(1, NONE), 10);
        claimed(s, fifty + "=aaa" + times("S", 16) + "Z");
        due("normal(0, -9)", s.normal(0, NONE), 10);
        due("normal(1, -9)", s.normal(1, NONE), STATE);
        claimed(s, "aaa" + times("S", 16) + "Z=" + fifty);
        due("normal(0, -9)", s.normal(0, NONE), STATE);
        due("normal(1, -9)", s.normal(1, NONE), 10);
    }

    private static void normalSymbols() {
        says(13, "or if a normal form that is computed on the way, of any subterm, has more than 40 symbols");
        Subject s = with(ADD, "11Z;SSSSbx", FORGET, "21y;dxy");
        String t = "b" + times("S", 9) + "x", n = times("S", 36) + "bx";
        normalIs(s, "SS" + t, "SS" + n);
        normalIs(s, "SSS" + t, null);
        normalIs(s, "ax" + t, "ax" + n);
        normalIs(s, "axS" + t, null);
        // The term itself may be longer, as long as the normal forms of its parts and of its value are not.
        s = with(ADD, "11Z;SSSSbx", FORGET, "21y;dxy");
        normalIs(s, "cZSS" + t, "Z");
        normalIs(s, "cZSSS" + t, null);
        normalIs(s, "cSSZSS" + t, "Z");
        normalIs(s, "cSSZSSS" + t, null);
        normalIs(s, "SScZSS" + t, "SSZ");
        normalIs(s, "c" + t + "y", "Z");
        normalIs(s, "cSSS" + t + "y", null);
        normalIs(s, "Sz", "Sz");
        normalIs(s, "dSZSS" + t, "SS" + n);
        s = with("11Z;SSSSax", "21SSSy;x");
        normalIs(s, "bZa" + times("S", 9) + "Z", times("S", 39) + "Z");
        normalIs(s, "bZSa" + times("S", 9) + "Z", null);
        // A body that needs its argument twice.
        s = with(ADD, "21SSSayy;x", "21SSSSayy;x");
        String u = "az" + times("S", 15) + "y";
        normalIs(s, "bZ" + u, "SSSa" + u + u);
        normalIs(s, "cZ" + u, null);
    }

    private static void normalWithoutBody() {
        says(13, "if its symbol is a function that has a body for its first argument as it is then");
        Subject s = with("12SSSZ;SSZ;Sx", "11SSZ;x");
        normalIs(s, "aZ", "SSSZ");
        normalIs(s, "aSZ", "SSZ");
        normalIs(s, "aSSZ", "SZ");
        normalIs(s, "aSSx", "Sx");
        normalIs(s, "aSx", "aSx");
        normalIs(s, "ax", "ax");
        normalIs(s, "aSay", "aSay");
        normalIs(s, "aSSay", "Say");
        normalIs(s, "aaSSx", "aSx");
        normalIs(s, "aSaSSz", "Sz");
        normalIs(s, "bZ", "SSZ");
        normalIs(s, "bSz", "z");
        normalIs(s, "by", "by");
        normalIs(s, "bay", "bay");
        normalIs(s, "bbSSx", "x");
        says(13, "A variable of the term itself stays.");
        normalIs(s, "x", "x");
        normalIs(s, "Sy", "Sy");
        normalIs(s, "z", "z");
        normalIs(s, "Z", "Z");
    }

    private static void normalPlaces() {
        says(13, "NONE if there is no such position");
        Subject s = with("11Z;SSSSax");
        claimed(s, "SSa" + times("S", 9) + "x=Z");
        due("normal(0, 38)", s.normal(0, 38), 'a');
        due("normal(0, 39)", s.normal(0, 39), 'x');
        due("normal(0, 40)", s.normal(0, 40), OUTSIDE);
        due("normal(1, 0)", s.normal(1, 0), 'Z');
        due("normal(1, 1)", s.normal(1, 1), NONE);
        due("normal(1, 39)", s.normal(1, 39), NONE);
    }

    private static void schemeIs(Subject s, String claim, int variable, int depth, int calls) {
        claimed(s, claim);
        due("scheme(0) of " + claim, s.scheme(0), variable);
        due("scheme(1) of " + claim, s.scheme(1), depth);
        due("scheme(2) of " + claim, s.scheme(2), calls);
    }

    private static void scheme() {
        says(14, "The induction variable of a claim is the variable with the most calls");
        Subject s = with(ADD, "12Z;Z;Sbx", "11Z;Scx");
        schemeIs(s, "axaxy=ayz", 0, 1, 2);
        schemeIs(s, "axaxy=ayayayz", 1, 1, 3);
        schemeIs(s, "axaxy=azazazz", 2, 1, 3);
        schemeIs(s, "abzbz=acxcy", 2, 2, 2);
        schemeIs(s, times("ax", 9) + "x=" + times("ax", 9) + "x", 0, 1, 18);
        schemeIs(s, times("ax", 9) + "x=" + times("ay", 9) + "cy", 1, 1, 10);
        schemeIs(s, "x=az" + times("S", 17) + "y", 2, 1, 1);
        says(14, "its induction depth is the greatest depth of a function of which it is the first argument");
        schemeIs(s, "abxcx=Z", 0, 2, 2);
        schemeIs(s, "acxbx=Z", 0, 2, 2);
        schemeIs(s, "cx=bx", 0, 2, 2);
        schemeIs(s, "bx=cx", 0, 2, 2);
        schemeIs(s, "bx=Z", 0, 2, 1);
        schemeIs(s, "Z=cx", 0, 1, 1);
        says(14, "Of several variables with the same number of calls, the one with the smallest such depth is taken");
        schemeIs(s, "bx=cz", 2, 1, 1);
        schemeIs(s, "abxby=cz", 2, 1, 1);
        schemeIs(s, "abxcx=acycy", 1, 1, 2);
        schemeIs(s, "bx=acycz", 1, 1, 1);
        says(14, "of these the first one of x, y and z");
        schemeIs(s, "aazxaayzaxy=Z", 0, 1, 1);
        schemeIs(s, "cz=cy", 1, 1, 1);
        schemeIs(s, "bz=by", 1, 2, 1);
        schemeIs(s, "bz=bx", 0, 2, 1);
        says(14, "There is none if there are no calls.");
        schemeIs(s, "x=y", NONE, NONE, NONE);
        schemeIs(s, "aSxy=aZz", NONE, NONE, NONE);
        schemeIs(s, "ccZ=bSz", NONE, NONE, NONE);
        says(14, "(with its sides as they are, not normalized)");
        schemeIs(s, "aaZxy=y", NONE, NONE, NONE);
        schemeIs(s, "aSxy=azx", 2, 1, 1);
    }

    private static void differenceIs(Subject s, String claim, int want) {
        claimed(s, claim);
        due("difference() of " + claim, s.difference(), want);
    }

    private static void difference() {
        says(15, "NONE if the left side does not embed the right one");
        Subject s = with(ADD, DOUBLE);
        differenceIs(s, "x=x", 0);
        differenceIs(s, "Z=Z", 0);
        differenceIs(s, "x=z", NONE);
        differenceIs(s, "Z=x", NONE);
        differenceIs(s, "x=Sx", NONE);
        differenceIs(s, "Sx=Sy", NONE);
        differenceIs(s, "bx=Sx", NONE);
        differenceIs(s, "axy=ayx", NONE);
        differenceIs(s, "aaxyz=azy", NONE);
        differenceIs(s, "abxy=axby", NONE);
        differenceIs(s, "aSxSy=Saxy", NONE);
        says(15, "the sum, over all marked symbols, of their depth in the whole term t, the first symbol of which has the depth 0");
        differenceIs(s, "Sx=x", 0);
        differenceIs(s, "SSx=x", 1);
        differenceIs(s, times("S", 19) + "x=x", 171);
        differenceIs(s, times("S", 19) + "x=" + times("S", 19) + "x", 0);
        differenceIs(s, times("S", 19) + "x=" + times("S", 18) + "x", 0);
        differenceIs(s, times("S", 18) + "x=" + times("S", 19) + "x", NONE);
        differenceIs(s, "axSy=axy", 1);
        differenceIs(s, "abxby=axy", 2);
        differenceIs(s, "abbxy=axy", 3);
        says(15, "The difference of t and k is the smallest measure of a way in which t embeds k.");
        differenceIs(s, "axSx=x", 0);
        differenceIs(s, "aSxx=x", 0);
        differenceIs(s, "aSSxSx=x", 1);
        differenceIs(s, "SbSx=Sx", 1);
        differenceIs(s, "bSbx=bx", 1);
        differenceIs(s, "aabxyabxSy=abxy", 0);
        differenceIs(s, "aabxSyabxSSy=abxy", 2);
    }

    /** Ways for the arguments are chosen independently; the marks of all of them count. */
    private static void embedding() {
        says(15, "(Ways for the arguments are chosen independently; the marks of all of them count.)");
        Subject s = with(ADD, DOUBLE);
        differenceIs(s, "aSxSy=axy", 2);
        differenceIs(s, "aaxySaxy=axy", 0);
        differenceIs(s, "aaSxySaxx=axx", 1);
        differenceIs(s, "aSxaSyy=axy", 2);
        differenceIs(s, "abSxSSby=abxby", 2 + 1 + 2);
        says(15, "or one argument of t embeds k, and then the first symbol of t is marked");
        differenceIs(s, "axy=x", 0);
        differenceIs(s, "axy=y", 0);
        differenceIs(s, "axy=z", NONE);
        differenceIs(s, "aaxyaxz=z", 1);
    }

    private static void steeredIs(Subject s, String claim, String result) {
        claimed(s, claim);
        due("steered(-9) of " + claim, s.steered(NONE), result.length());
        for (int i = 0; i < result.length(); i++) {
            due("steered(" + i + ") of " + claim, s.steered(i), result.charAt(i));
        }
    }

    /** With c(S x, T) = T + c(x, T), the term a T a T c x T has 4 symbols and three times those of T. */
    private static void steeredSymbols() {
        says(16, "provided that the new term has at most 40 symbols");
        Subject s = with(ADD, DOUBLE, "21y;aycxy");
        proved(s, "cSxy=aycxy");
        String t = times("S", 11) + "y";
        steeredIs(s, "cSSx" + t + "=cx" + t, "a" + t + "a" + t + "cx" + t);
        steeredIs(s, "ScSSx" + t + "=Scx" + t, "Sa" + t + "cSx" + t);
        String u = times("S", 10) + "y";
        steeredIs(s, "SSScSSx" + u + "=SSScx" + u, "SSSa" + u + "a" + u + "cx" + u);
        steeredIs(s, "SSSScSSx" + u + "=SSSScx" + u, "SSSSa" + u + "cSx" + u);
        // Each step makes the term longer by 2.
        s = with(ADD, "11Z;abxSZ");
        proved(s, "bSx=abxSZ");
        String eight = times("S", 8), ten = times("S", 10);
        steeredIs(s, eight + "b" + ten + "x=" + eight + "bx", eight + times("a", 10) + "bx" + times("SZ", 10));
        String six = times("S", 6);
        steeredIs(s, six + "bS" + ten + "x=" + six + "bx", six + times("a", 10) + "bSx" + times("SZ", 10));
        // The last symbol of the new term, the 40th or the 41st one, is the Z of the lemma.
        s = with(ADD, "21Z;abxyayayZ");
        proved(s, "bSxy=abxyayayZ");
        steeredIs(s, "SbSx" + u + "=Sbx" + u, "Sabx" + u + "a" + u + "a" + u + "Z");
        steeredIs(s, "SSbSx" + u + "=SSbx" + u, "SSbSx" + u);
    }

    private static void steeredChoice() {
        says(16, "still embeds the skeleton, and has a smaller difference from it");
        Subject s = with(ADD);
        proved(s, "axSy=Saxy");
        steeredIs(s, "axSy=axy", "Saxy");
        steeredIs(s, "axSy=axSy", "axSy");
        steeredIs(s, "axSy=Sy", "axSy");
        steeredIs(s, "SaxSy=axy", "SSaxy");
        says(16, "The first such replacement is done; then the next step begins again at the first position.");
        steeredIs(s, "axaySz=axayz", "Saxayz");
        // At last, moving one S more to the outside would leave the difference 2.
        steeredIs(s, "aaxSyaxSz=aaxyaxz", "aSaxySaxz");
        says(16, "if the side from which it goes is not a single variable, contains all variables of the other side");
        s = with(ADD, "21Z;Z");
        proved(s, "x=aZx");
        steeredIs(s, "SSx=x", "SSx");
        steeredIs(s, "SaZSx=Sx", "SSx");
        s = with(ADD, "21Z;Z");
        proved(s, "bxy=Z");
        steeredIs(s, "abxyZ=bxy", "abxyZ");
        steeredIs(s, "aZSSZ=SZ", "aZSSZ");
        steeredIs(s, "aabxySZSZ=aZSZ", "aaZSZSZ");
    }

    private static void steeredOrder() {
        says(16, "For each position of the term in ascending order, for each lemma in ascending order, and for each direction");
        // At position 0 each side of the lemma matches, and the difference gets smaller in both directions.
        Subject s = with(ADD);
        proved(s, "axayz=aaxyz");
        steeredIs(s, "aaxyayx=x", "aaaxyyx");
        s = with(ADD);
        proved(s, "aaxyz=axayz");
        steeredIs(s, "aaxyayx=x", "axayayx");
        // The first lemma would only do for position 1, the second one does for position 0.
        s = with(ADD, "11Z;Sbx");
        proved(s, "bSx=Sbx");
        proved(s, "axSy=Saxy");
        steeredIs(s, "axSbSy=axby", "SSaxby");
        // The first lemma leaves the difference 2 and no further step; the second one would leave 1.
        s = with(ADD);
        proved(s, "axSSy=SaxSy");
        proved(s, "axSSy=SSaxy");
        steeredIs(s, "axSSy=axy", "SaxSy");
    }

    private static void steeredMatch() {
        says(16, "each of its variables is replaced by a term, the same one wherever it occurs");
        Subject s = with(ADD, DOUBLE);
        proved(s, "axSy=Saxy");
        proved(s, "axx=bx");
        steeredIs(s, "aaxxSbx=bx", "abxSbx");
        steeredIs(s, "aaxySbx=bx", "aaxySbx");
        steeredIs(s, "aaSxSxSbSx=bSx", "abSxSbSx");
        steeredIs(s, "aaSxxSbSx=bSx", "aaSxxSbSx");
        steeredIs(s, "aaSxSySbSx=bSx", "aaSxSySbSx");
    }

    private static void steeredPlaces() {
        says(16, "NONE if there is no such position");
        Subject s = with(ADD, DOUBLE, "21y;aycxy");
        proved(s, "cSxy=aycxy");
        String t = times("S", 11) + "y";
        claimed(s, "cSSx" + t + "=cx" + t);
        due("steered(-9)", s.steered(NONE), 40);
        due("steered(39)", s.steered(39), 'y');
        due("steered(40)", s.steered(40), OUTSIDE);
        claimed(s, "x=x");
        due("steered(0)", s.steered(0), 'x');
        due("steered(1)", s.steered(1), NONE);
        due("steered(39)", s.steered(39), NONE);
    }

    private static void commonIs(Subject s, String claim, String result) {
        claimed(s, claim);
        due("common(-9) of " + claim, s.common(NONE), result.isEmpty() ? NONE : result.length());
        for (int i = 0; i <= result.length() && i < 20; i++) {
            due("common(" + i + ") of " + claim, s.common(i), i < result.length() ? result.charAt(i) : NONE);
        }
        due("common(19) of " + claim, s.common(19), result.length() == 20 ? result.charAt(19) : NONE);
    }

    private static void generalIs(Subject s, String claim, String result) {
        claimed(s, claim);
        String[] sides = result.split("=");
        for (int which = 0; which < 2; which++) {
            due("general(" + which + ", -9) of " + claim, s.general(which, NONE), sides[which].length());
            for (int i = 0; i <= sides[which].length() && i < 20; i++) {
                due("general(" + which + ", " + i + ") of " + claim, s.general(which, i),
                        i < sides[which].length() ? sides[which].charAt(i) : NONE);
            }
        }
    }

    private static void common() {
        says(17, "NONE if there is no common subterm, or no such position");
        Subject s = with(ADD, DOUBLE);
        commonIs(s, "x=x", "");
        commonIs(s, "SSx=SSx", "");
        commonIs(s, "Z=Z", "");
        commonIs(s, "axy=ayx", "");
        commonIs(s, "bx=x", "");
        commonIs(s, "x=bx", "");
        commonIs(s, "bSx=SbSx", "bSx");
        String term = "b" + times("S", 18) + "x";
        commonIs(s, term + "=" + term, term);
        due("common(20)", s.common(20), OUTSIDE);
        says(17, "with the greatest size that begins with a function letter and also occurs as a subterm of the right side");
        commonIs(s, "abxby=abybx", "bx");
        commonIs(s, "abxbSy=abSybx", "bSy");
        commonIs(s, "SSbbx=abxbx", "bx");
        commonIs(s, "SSSbx=bSSbx", "bx");
        s = with(ADD, DOUBLE);
        says(17, "of several the one at the first position in the left side");
        commonIs(s, "abyabxbz=abzabybx", "by");
        commonIs(s, "aabyxbx=aabxxby", "by");
    }

    private static void generalWithout() {
        says(18, "If there is no common subterm, or no such variable, the generalization is the claim itself.");
        Subject s = with(ADD, DOUBLE);
        String[] claims = {"x=x", "SSx=SSx", "axy=ayx", "abxbx=axx", "aaxyz=Saxy", "bz=aayxbz",
            times("S", 19) + "x=" + times("S", 19) + "y"};
        for (String claim : claims) {
            generalIs(s, claim, claim);
        }
        due("general(0, 19)", s.general(0, 19), 'x');
        due("general(1, 19)", s.general(1, 19), 'y');
        due("general(1, 20)", s.general(1, 20), OUTSIDE);
    }

    private static void generalVariable() {
        says(18, "the first one of x, y and z that occurs in neither side replaces the common subterm");
        Subject s = with(ADD, DOUBLE);
        generalIs(s, "bZ=SbZ", "x=Sx");
        generalIs(s, "bx=Sbx", "y=Sy");
        generalIs(s, "by=Sby", "x=Sx");
        generalIs(s, "bz=Sbz", "x=Sx");
        generalIs(s, "axbz=Sbz", "axy=Sy");
        generalIs(s, "axby=Sby", "axz=Sz");
        generalIs(s, "bSbx=azbx", "bSy=azy");
        says(18, "wherever it occurs in both sides");
        generalIs(s, "abxabxSbx=Sabxbx", "ayaySy=Sayy");
        s = with(ADD, DOUBLE);
        generalIs(s, "abbxbx=abxbx", "abyy=ayy");
        generalIs(s, "bbbx=bbx", "by=y");
        String term = "b" + times("S", 18) + "x";
        generalIs(s, term + "=" + term, "y=y");
    }

    /** b(m) has the work 10 * (m + 1), and c(m), which is the same, one more call. */
    private static void testedRange() {
        says(23, "Tests a lemma with all 64 triples of numbers from 0 to 3 for x, y and z.");
        Subject s = with("11Z;Sax", "11a" + times("S", 8) + "Z;abx", "11bZ;bSx");
        proved(s, "cx=bx");
        proved(s, "cSSx=bSSx");
        proved(s, "cSSy=bSSy");
        proved(s, "bSSSz=abSSz");
        int[] undefined = {0, 16, 16, 16};
        for (int k = 0; k < 4; k++) {
            due("tested(" + k + ", 0)", s.tested(k, 0), 64 - undefined[k]);
            due("tested(" + k + ", 1)", s.tested(k, 1), 0);
            due("tested(" + k + ", 2)", s.tested(k, 2), undefined[k]);
        }
    }
}
