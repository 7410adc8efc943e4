/** The sentences of the description that name no boundary, in the order of the document. */
public final class SentenceTest extends Checks {
    private static final int PROMISED = 512;

    public static void main(String[] args) {
        lastPromisedCall();
        codes();
        prefixNotation();
        numbers();
        numbersOfFunctions();
        bodies();
        callsAndWork();
        argumentsOnce();
        textOfClaim();
        argumentsFirst();
        callsOfVariables();
        correspondingArguments();
        rippledAsLongAsPossible();
        commonAnywhere();
        orderOfLemmas();
        levels();
        goals();
        onlyTheLastCase();
        leftThenRight();
        normalizedAgain();
        failuresGoUp();
        end();
    }

    private static void lastPromisedCall() {
        says(0, "An object is used for at most 512 calls after it has been made");
        for (int kind = 0; kind < 3; kind++) {
            Subject s = with(ADD);
            proved(s, "axSy=Saxy");
            for (int n = s.calls() + 1; n < PROMISED; n++) {
                due("call " + n + ", prove()", s.prove(), 0);
            }
            switch (kind) {
                case 0 -> due("call 512, prove()", s.prove(), 0);
                case 1 -> due("call 512, many(1)", s.many(1), 1);
                default -> due("call 512, script(1, 1)", s.script(1, 1), 10);
            }
            due("the number of calls", s.calls(), PROMISED);
        }
    }

    private static void put(Subject s, int... codes) {
        s.wipe();
        for (int i = 0; i < codes.length; i++) {
            due("type(" + codes[i] + ")", s.type(codes[i]), i + 1);
        }
    }

    private static void codes() {
        says(7, "The codes of all characters are those of ASCII (Z 90, S 83, x 120, y 121, z 122, a to f 97 to 102, \";\" 59, \"=\" 61).");
        Subject s = new Subject();
        put(s, 121, 59, 83, 97, 120, 121);
        due("function(2, 1)", s.function(2, 1), 0);
        int[] last = {83, 97, 120, 121, NONE};
        for (int i = 0; i < last.length; i++) {
            due("body(0, 2, " + i + ")", s.body(0, 2, i), last[i]);
        }
        for (int f = 1; f < 6; f++) {
            put(s, 90, 59, 120);
            due("function(1, 1)", s.function(1, 1), f);
            put(s, 122, 61, 97 + f, 90);
            due("claim()", s.claim(), 3);
            due("side(0, 0)", s.side(0, 0), 122);
            due("side(1, 0)", s.side(1, 0), 97 + f);
            due("side(1, 1)", s.side(1, 1), 90);
        }
    }

    /** b(m, n) is n, but Z if m is Z. */
    private static void prefixNotation() {
        says(8, "A term is written in prefix notation, each symbol before its arguments, without brackets.");
        Subject s = with(ADD, "21Z;y");
        claimed(s, "bxSZ=bSZx");
        due("holds(0, 0, 0)", s.holds(0, 0, 0), 1);
        due("holds(1, 0, 0)", s.holds(1, 0, 0), 1);
        due("holds(2, 0, 0)", s.holds(2, 0, 0), 0);
        claimed(s, "baxSyz=z");
        due("holds(0, 0, 3)", s.holds(0, 0, 3), 1);
        claimed(s, "abxSyz=Sz");
        due("holds(0, 0, 3)", s.holds(0, 0, 3), 0);
        due("holds(1, 0, 3)", s.holds(1, 0, 3), 1);
        says(8, "The positions of a term are the indices of its symbols in this notation, from 0");
        String left = "baxSyz";
        claimed(s, left + "=Z");
        for (int i = 0; i < left.length(); i++) {
            due("side(0, " + i + ")", s.side(0, i), left.charAt(i));
        }
        says(7, "The size of a term is the number of its symbols.");
        due("claim()", s.claim(), left.length() + 1);
        due("normal(0, -9)", s.normal(0, NONE), left.length());
    }

    private static void numbers() {
        says(11, "The number Z is 0, and S of a number is 1 more.");
        Subject s = new Subject();
        for (int n = 0; n <= 5; n++) {
            claimed(s, times("S", n) + "Z=x");
            for (int x = 0; x <= 5; x++) {
                due("holds(" + x + ", 0, 0) of " + n, s.holds(x, 0, 0), x == n ? 1 : 0);
            }
        }
        claimed(s, "SSSx=y");
        due("holds(2, 5, 0)", s.holds(2, 5, 0), 1);
        due("holds(2, 4, 0)", s.holds(2, 4, 0), 0);
    }

    private static void numbersOfFunctions() {
        says(4, "There are at most 6 functions, numbered from 0 in the order in which they were defined; at first there are none.");
        Subject s = new Subject();
        for (int f = 0; f < 6; f++) {
            due("many(0)", s.many(0), f);
            due("function " + f, define(s, "11" + times("S", f) + "Z;Z"), f);
        }
        for (int f = 0; f < 6; f++) {
            due("value(" + f + ", 0, 0, 0)", s.value(f, 0, 0, 0), f);
            claimed(s, (char) ('a' + f) + "Z=x");
            due("holds(" + f + ", 0, 0)", s.holds(f, 0, 0), 1);
        }
        due("many(0)", s.many(0), 6);
    }

    private static void bodies() {
        says(10, "In the bodies, y stands for the second argument.");
        Subject s = with("22Sy;SSy;SSSy", "21SSSSy;SSSSSy", "21SSSSSZ;x", "22SSSSSZ;SSSSSSZ;x");
        for (int n = 0; n < 10; n++) {
            due("value(0, 0, " + n + ", 0)", s.value(0, 0, n, 0), n + 1);
            due("value(0, 1, " + n + ", 0)", s.value(0, 1, n, 0), n + 2);
            due("value(0, 2, " + n + ", 0)", s.value(0, 2, n, 0), n + 3);
            due("value(1, 0, " + n + ", 0)", s.value(1, 0, n, 0), n + 4);
            due("value(1, 1, " + n + ", 0)", s.value(1, 1, n, 0), n + 5);
        }
        says(10, "The function is defined by its first argument: if it is Z, the value is the first body.");
        due("value(2, 0, 9, 0)", s.value(2, 0, 9, 0), 5);
        due("value(3, 0, 9, 0)", s.value(3, 0, 9, 0), 5);
        says(10, "For depth 1, if it is S of something, the value is the last body, where x stands for this something.");
        for (int m = 1; m < 10; m++) {
            due("value(2, " + m + ", 9, 0)", s.value(2, m, 9, 0), m - 1);
        }
        says(10, "if it is S of S of something, the last body, where x stands for this something");
        due("value(3, 1, 9, 0)", s.value(3, 1, 9, 0), 6);
        for (int m = 2; m < 10; m++) {
            due("value(3, " + m + ", 9, 0)", s.value(3, m, 9, 0), m - 2);
        }
    }

    /** The product of m and n: m + 1 calls of its own, and m times n + 1 calls of the sum. */
    private static void callsAndWork() {
        says(10, "The work is the number of calls, including those within bodies.");
        Subject s = with(ADD, "21Z;aybxy");
        for (int m = 0; m <= 4; m++) {
            for (int n = 0; n <= 9; n++) {
                due("value(1, " + m + ", " + n + ", 0)", s.value(1, m, n, 0), m * n);
                due("value(1, " + m + ", " + n + ", 1)", s.value(1, m, n, 1), m + 1 + m * (n + 1));
            }
        }
        says(10, "Returns the value or the work; NONE if the value is not defined");
        due("55 calls", s.value(1, 6, 7, 1), 55);
        due("61 calls, the value", s.value(1, 6, 8, 0), NONE);
        due("61 calls, the work", s.value(1, 6, 8, 1), NONE);
    }

    /** b(S m, n) = n + n needs n twice: c(S m) has 1 call of its own, m + 1 for its argument, 1 for b, m + 1 for the sum. */
    private static void argumentsOnce() {
        says(10, "the values of all its arguments are computed first, each once, whether they are needed or not");
        Subject s = with(ADD, "21y;ayy", "11Z;bSZaxZ");
        for (int m = 1; m < 10; m++) {
            due("value(2, " + m + ", 0, 0)", s.value(2, m, 0, 0), 2 * (m - 1));
            due("value(2, " + m + ", 0, 1)", s.value(2, m, 0, 1), 2 + 2 * m);
        }
    }

    private static void textOfClaim() {
        says(7, "The text of a claim consists of two terms, its left and its right side, separated by \"=\"");
        Subject s = with(ADD);
        due("axy=Sz", state(s, "axy=Sz"), 5);
        due("side(0, 0)", s.side(0, 0), 'a');
        due("side(0, 3)", s.side(0, 3), NONE);
        due("side(1, 0)", s.side(1, 0), 'S');
        due("side(1, 2)", s.side(1, 2), NONE);
        says(7, "There are no spaces.");
        due(" x=y", state(s, " x=y"), -100);
        due("x= y", state(s, "x= y"), -102);
        due("x=y ", state(s, "x=y "), -103);
        due("Z; x", define(s, "11Z; x"), -102);
    }

    private static void normalIs(Subject s, String side, String result) {
        claimed(s, side + "=Z");
        due("normal(0, -9) of " + side, s.normal(0, NONE), result.length());
        for (int i = 0; i < result.length(); i++) {
            due("normal(0, " + i + ") of " + side, s.normal(0, i), result.charAt(i));
        }
    }

    private static void argumentsFirst() {
        says(13, "To normalize a term, its arguments are normalized first.");
        Subject s = with(ADD, DOUBLE, "12Z;SZ;cx");
        // The outer function has no body for aZSx, but one for Sx.
        normalIs(s, "aaZSxy", "Saxy");
        normalIs(s, "baSZx", "SSbx");
        normalIs(s, "caSZSZ", "Z");
        normalIs(s, "caSZaZx", "cSx");
        normalIs(s, "axaSZy", "axSy");
        says(13, "the result is this body, normalized, in which x and y stand for terms as told above");
        normalIs(s, "aSSxby", "SSaxby");
        normalIs(s, "aSbxaZz", "Sabxz");
        normalIs(s, "bSaSxy", "SSSSbaxy");
        normalIs(s, "cSSSSbz", "cbz");
        // x, y and z of the term are not those of the bodies.
        normalIs(s, "aSyx", "Sayx");
        normalIs(s, "aSzSx", "SazSx");
    }

    private static void schemeIs(Subject s, String claim, int variable, int calls) {
        claimed(s, claim);
        due("scheme(0) of " + claim, s.scheme(0), variable);
        due("scheme(2) of " + claim, s.scheme(2), calls);
    }

    private static void callsOfVariables() {
        says(14, "The calls of a variable in a claim are the positions in both sides where it is the first argument of a function.");
        Subject s = with(ADD, DOUBLE);
        schemeIs(s, "axbx=Z", 0, 2);
        schemeIs(s, "Z=axbx", 0, 2);
        schemeIs(s, "bx=bx", 0, 2);
        schemeIs(s, "axaxx=axx", 0, 3);
        // Second arguments, arguments of S, and arguments that are no variable do not count.
        schemeIs(s, "aayxx=Sx", 1, 1);
        schemeIs(s, "abSxabzx=bSx", 2, 1);
        schemeIs(s, "aSxaZx=bSy", NONE, NONE);
    }

    private static void correspondingArguments() {
        says(15, "either the first symbols of both are equal, and each argument of t embeds the corresponding argument of k");
        Subject s = with(ADD, DOUBLE);
        String[] claims = {"axy=axy", "aSxby=axy", "aSxSSy=axSy", "aSyx=axy", "axby=abxy", "bSx=bx", "Sbx=Sx"};
        int[] due = {0, 2, 2, NONE, NONE, 1, 1};
        for (int n = 0; n < claims.length; n++) {
            claimed(s, claims[n]);
            due("difference() of " + claims[n], s.difference(), due[n]);
        }
        says(15, "Returns the difference of the left side of the present claim and its right side as the skeleton.");
        claimed(s, "axy=aSxby");
        due("difference(), the other way round", s.difference(), NONE);
    }

    /** Each of ten S moves out of nine functions, in 90 steps. */
    private static void rippledAsLongAsPossible() {
        says(16, "To ripple a term with a skeleton that it embeds means to repeat the following step as long as possible.");
        Subject s = with("11Z;Sax");
        proved(s, "aSx=Sax");
        String nine = times("a", 9), ten = times("S", 10), result = ten + nine + "x";
        claimed(s, nine + ten + "x=" + nine + "x");
        due("difference()", s.difference(), 135);
        due("steered(-9)", s.steered(NONE), result.length());
        for (int i = 0; i < result.length(); i++) {
            due("steered(" + i + ")", s.steered(i), result.charAt(i));
        }
        says(16, "The claim does not change.");
        due("side(0, 0)", s.side(0, 0), 'a');
        due("side(0, 9)", s.side(0, 9), 'S');
        due("difference()", s.difference(), 135);
        claimed(s, result + "=" + nine + "x");
        due("difference() then", s.difference(), 45);
    }

    private static void commonAnywhere() {
        says(17, "The common subterm of a claim is the subterm of its left side that also occurs as a subterm of the right side");
        Subject s = with(ADD, DOUBLE);
        // Behind the end of the other side.
        for (String claim : new String[] {"aaxyaxbx=bx", "bx=aaxyaxbx"}) {
            claimed(s, claim);
            due("common(-9) of " + claim, s.common(NONE), 2);
            due("common(0) of " + claim, s.common(0), 'b');
            due("common(1) of " + claim, s.common(1), 'x');
            int longer = claim.startsWith("b") ? 1 : 0;
            due("general of " + claim, s.general(longer, NONE), 7);
            due("general of " + claim, s.general(longer, 6), 'z');
            due("general of " + claim, s.general(1 - longer, NONE), 1);
            due("general of " + claim, s.general(1 - longer, 0), 'z');
        }
        // One side may be the common subterm itself.
        claimed(s, "Sabxx=abxx");
        due("common(-9)", s.common(NONE), 4);
        claimed(s, "abxx=Sabxx");
        due("common(-9)", s.common(NONE), 4);
        due("general(0, 0)", s.general(0, 0), 'y');
        due("general(1, 1)", s.general(1, 1), 'y');
    }

    private static void orderOfLemmas() {
        says(22, "There are at most 8 lemmas, numbered from 0 in the order in which they came.");
        Subject s = with(ADD);
        String[] claims = {"axZ=x", "axSy=Saxy", "aZx=x", "aaxyz=axayz"};
        for (int k = 0; k < claims.length; k++) {
            due("many(1)", s.many(1), k);
            proved(s, claims[k]);
        }
        for (int k = 0; k < claims.length; k++) {
            lemmaIs(s, k, claims[k]);
        }
    }

    private static void attempt(Subject s, String claim, int kind, String script, int... causes) {
        attempted(s, claim, kind);
        scriptIs(s, script);
        causesAre(s, causes);
    }

    private static void levels() {
        says(19, "Note 0 with the level.");
        attempt(with("21y;axSy"), "axZ=x", 2,
                "0:0 2:10 3:0 3:1 5:1 6:-9 0:1 2:10 3:0 3:1 6:-9 0:2 2:10 3:0 3:1 8:2 8:2 8:2", 2, 2, 2, 4);
        says(19, "When all cases are done, the claim is proved. Whenever a claim is proved: note 7 with the level");
        attempt(with(ADD), "axZ=x", 0, "0:0 2:10 3:0 3:1 5:0 7:0");
        says(19, "Whenever an attempt fails: note 8 with the kind of its failure (1 or 2).");
        attempt(with(ADD), "axy=x", 1, "0:0 8:1", 1);
    }

    /** a(x, y) = y, by steps of two: the goals that are proved as lemmas show what x was replaced by. */
    private static void goals() {
        says(19, "The goal is the claim in which v is replaced by c times S applied to Z, or, in the last case c = d, by d times S applied to v.");
        Subject s = with("22y;y;axy");
        String lemma = " 2:21 3:0 3:1 3:2 5:0 7:";
        attempt(s, "axx=ayx", 2, "0:0 2:20 3:0 6:-9 0:1" + lemma + "1 3:1 6:-9 0:1" + lemma + "1 3:2 6:-9 "
                + "0:1 2:20 3:0 6:-9 0:2" + lemma + "2 3:1 6:-9 0:2" + lemma + "2 3:2 6:-9 0:2 2:20 3:0 8:2 8:2 8:2", 2, 2, 2, 4);
        String[] lemmas = {"Z=ayZ", "SZ=aySZ", "SSZ=aySSZ", "SSSZ=aySSSZ"};
        due("many(1)", s.many(1), 4);
        for (int k = 0; k < lemmas.length; k++) {
            lemmaIs(s, k, lemmas[k]);
        }
        says(19, "Its sides are normalized. If they are equal, the case is done.");
        attempt(with(ADD), "axZ=x", 0, "0:0 2:10 3:0 3:1 5:0 7:0");
        attempt(with("11Z;Z"), "ax=Z", 0, "0:0 2:10 3:0 3:1 7:0");
    }

    private static void onlyTheLastCase() {
        says(19, "Only in the last case");
        // azZ matches in case 0, too, where the claim is not used.
        attempt(with("21y;axy"), "azZ=aaaxzZZ", 0, "0:0 2:10 3:0 6:-9 0:1 2:12 3:0 3:1 5:0 7:1 3:1 5:0 7:0");
    }

    private static void leftThenRight() {
        says(19, "if the left side of the goal embeds the left side of the claim, it is rippled with it; then the right side of the goal likewise");
        Subject s = with(ADD);
        proved(s, "axSy=Saxy");
        attempt(s, "aaxxx=axaxx", 0, "0:0 2:10 3:0 3:1 4:0 4:10 4:10 4:10 5:1 6:1 0:1 2:11 3:0 3:1 5:0 7:1 7:0");
    }

    /** b(m) is 1. After the claim has been used, aSZZ still has to be normalized. */
    private static void normalizedAgain() {
        says(19, "Then both sides are normalized again. If they are equal, the case is done.");
        attempt(with(ADD, "11SZ;abxZ"), "bx=SZ", 0, "0:0 2:10 3:0 3:1 5:0 7:0");
        // Here SZ itself is replaced, and bx=abxZ remains, the generalization of which is y=ayZ.
        attempt(with(ADD, "11SZ;abxZ"), "SZ=bx", 0, "0:0 2:10 3:0 3:1 5:0 6:1 0:1 2:11 3:0 3:1 5:0 7:1 7:0");
    }

    private static void failuresGoUp() {
        says(19, "if it fails, this attempt fails, too (stuck, with that failure as its cause)");
        attempt(with("12Z;Z;x"), "ax=Z", 2, "0:0 2:20 3:0 3:1 3:2 5:1 6:-9 0:1 8:1 8:2", 2, 1);
        attempt(with("22y;Sy;SSaxy"), "aSxy=aySx", 2, "0:0 2:21 3:0 6:-9 0:1 8:2 8:2", 2, 2);
    }
}
