/**
 * The texts of functions and claims: which codes may come where, the greatest sizes, and the fault positions. Behind
 * many beginnings of texts, each of the 128 codes is tried.
 */
public final class TextTest extends Checks {
    // Of arity 2, 1, 2 and 1.
    private static final String[] KNOWN = {ADD, DOUBLE, "22y;y;cxy", "12Z;Z;dx"};

    public static void main(String[] args) {
        claimSymbols();
        claimSymbolsWithFunctions();
        claimSizes();
        claimEndsTooEarly();
        claimFaults();
        lettersInOrder();
        bodySymbols();
        ownLetter();
        bodySizes();
        bodyEndsTooEarly();
        functionFaults();
        numbersOfBodies();
        fullTapes();
        end();
    }

    /** Tries all codes behind a beginning; those in "done" complete the text, those in "open" only continue it. */
    private static void behind(String[] functions, String kind, String beginning, String open, String done) {
        for (int code = 0; code < 128; code++) {
            Subject s = with(functions);
            String text = beginning + (char) code;
            int p = beginning.length();
            write(s, text);
            int got = kind.isEmpty() ? s.claim() : s.function(kind.charAt(0) - '0', kind.charAt(1) - '0');
            boolean complete = done.indexOf(code) >= 0;
            int want = complete ? kind.isEmpty() ? p : functions.length : open.indexOf(code) >= 0 ? -100 - p - 1 : -100 - p;
            due(kind + " " + text + " (the last code is " + code + ")", got, want);
            due("many(2)", s.many(2), p + 1);
            due("many(0)", s.many(0), functions.length + (complete && !kind.isEmpty() ? 1 : 0));
        }
    }

    private static final String[] NOTHING = {};

    private static void claimSymbols() {
        says(7, "each has at most 20 symbols, which can be Z, S, x, y, z and the letters of all functions");
        behind(NOTHING, "", "", "ZSxyz", "");
        behind(NOTHING, "", "x", "=", "");
        behind(NOTHING, "", "Z", "=", "");
        behind(NOTHING, "", "S", "ZSxyz", "");
        behind(NOTHING, "", "SSy", "=", "");
        behind(NOTHING, "", "z=", "S", "Zxyz");
        behind(NOTHING, "", "z=S", "S", "Zxyz");
        behind(NOTHING, "", "z=x", "", "");
        behind(NOTHING, "", "z=SSZ", "", "");
    }

    private static void claimSymbolsWithFunctions() {
        says(7, "each has at most 20 symbols, which can be Z, S, x, y, z and the letters of all functions");
        behind(KNOWN, "", "", "ZSxyzabcd", "");
        behind(KNOWN, "", "a", "ZSxyzabcd", "");
        behind(KNOWN, "", "ax", "ZSxyzabcd", "");
        behind(KNOWN, "", "axy", "=", "");
        behind(KNOWN, "", "b", "ZSxyzabcd", "");
        behind(KNOWN, "", "bx", "=", "");
        behind(KNOWN, "", "cbx", "ZSxyzabcd", "");
        behind(KNOWN, "", "cbxdz", "=", "");
        behind(KNOWN, "", "x=", "Sabcd", "Zxyz");
        behind(KNOWN, "", "x=a", "ZSxyzabcd", "");
        behind(KNOWN, "", "x=ax", "Sabcd", "Zxyz");
        behind(KNOWN, "", "x=axy", "", "");
        behind(KNOWN, "", "x=d", "Sabcd", "Zxyz");
        String[] six = {"11Z;x", "11Z;x", "11Z;x", "11Z;x", "11Z;x", "11Z;x"};
        behind(six, "", "x=", "Sabcdef", "Zxyz");
    }

    /** The same for the left side and, behind "x=", for the right one. */
    private static void claimSizes() {
        says(7, "A symbol after which a term could not be completed any more within its greatest size is such a code.");
        String s16 = times("S", 16), s17 = times("S", 17), s18 = times("S", 18), s19 = times("S", 19);
        behind(KNOWN, "", s17, "ZSxyzabcd", "");
        behind(KNOWN, "", s18, "ZSxyzbd", "");
        behind(KNOWN, "", s19, "Zxyz", "");
        behind(KNOWN, "", s19 + "Z", "=", "");
        behind(KNOWN, "", s16 + "a", "ZSxyzbd", "");
        behind(KNOWN, "", s17 + "a", "Zxyz", "");
        behind(KNOWN, "", "a" + s16, "ZSxyzbd", "");
        behind(KNOWN, "", "a" + s17, "Zxyz", "");
        behind(KNOWN, "", "a" + s17 + "x", "Zxyz", "");
        behind(KNOWN, "", "a" + s17 + "xy", "=", "");
        behind(KNOWN, "", "ax" + s16, "ZSxyzbd", "");
        behind(KNOWN, "", "ax" + s17, "Zxyz", "");
        behind(KNOWN, "", times("a", 9), "ZSxyzbd", "");
        behind(KNOWN, "", times("a", 9) + "b", "Zxyz", "");
        behind(KNOWN, "", "x=" + s17, "Sabcd", "Zxyz");
        behind(KNOWN, "", "x=" + s18, "Sbd", "Zxyz");
        behind(KNOWN, "", "x=" + s19, "", "Zxyz");
        behind(KNOWN, "", "x=" + s19 + "Z", "", "");
        behind(KNOWN, "", "x=" + s16 + "a", "ZSxyzbd", "");
        behind(KNOWN, "", "x=" + s17 + "a", "Zxyz", "");
        behind(KNOWN, "", "x=ax" + s16, "Sbd", "Zxyz");
        behind(KNOWN, "", "x=ax" + s17, "", "Zxyz");
        behind(KNOWN, "", s19 + "Z=" + s19, "", "Zxyz");
        says(7, "Returns the sum of the sizes of both sides");
        Subject s = with(KNOWN);
        claimed(s, s19 + "Z=" + s18 + "bx");
        due("side(0, 18)", s.side(0, 18), 'S');
        due("side(0, 19)", s.side(0, 19), 'Z');
        due("side(1, 18)", s.side(1, 18), 'b');
        due("side(1, 19)", s.side(1, 19), 'x');
        due("20 and 20 symbols", state(s, times("a", 9) + "b" + times("x", 9) + "y=" + s19 + "z"), 40);
        due("21 symbols", state(s, times("a", 9) + "bb" + times("x", 9) + "y=" + s19 + "z"), -110);
        due("19 and 20 symbols", state(s, times("a", 9) + times("x", 9) + "y=" + s19 + "z"), 39);
        due("1 and 1 symbol", state(s, "Z=y"), 2);
    }

    private static void claimEndsTooEarly() {
        says(7, "or the number of codes, if the tape ends too early");
        String text = "aSxbcyz=" + times("S", 17) + "axy";
        Subject s = with(KNOWN);
        for (int n = 0; n < text.length(); n++) {
            due(text.substring(0, n), state(s, text.substring(0, n)), -100 - n);
            s = with(KNOWN);
        }
        due(text, state(s, text), text.length() - 1);
        due("the longest one", state(s, times("S", 19) + "Z=" + times("S", 19)), -140);
    }

    private static void claimFaults() {
        says(7, "the index, from 0, of the first code with which no such text continues, given the codes before it");
        Object[][] rows = {
            {" x=x", 0}, {"x =x", 1}, {"x= x", 2}, {"x=x ", 3}, {"xw=wx", 1}, {"xx=xx", 1}, {"axyy=x", 3}, {"ax=x", 2},
            {"==", 0}, {"x==x", 2}, {"x=x=x", 3}, {"x;x", 1}, {"S=x", 1}, {"x=S=", 3}, {"X=x", 0}, {"x=s", 2}, {"x=z0", 3},
            {"e=e", 0}, {"x=e", 2}, {"bxy=x", 2}, {"(x)=x", 0}, {"ax,y=x", 2},
        };
        for (Object[] row : rows) {
            due((String) row[0], state(with(KNOWN), (String) row[0]), -100 - (Integer) row[1]);
        }
    }

    private static void lettersInOrder() {
        says(7, "the letters a to f for the functions 0 to 5, with one or two arguments");
        Subject s = new Subject();
        String letters = "abcdef";
        for (int f = 0; f < 6; f++) {
            for (int g = 0; g < 6; g++) {
                due("x=" + letters.charAt(g) + "x", state(s, "x=" + letters.charAt(g) + "x"), g < f ? 3 : -102);
            }
            due("function " + f, define(s, "11Z;x"), f);
        }
        due("x=fx", state(s, "x=fx"), 3);
        due("x=gx", state(s, "x=gx"), -102);
        due("x=`x", state(s, "x=`x"), -102);
    }

    private static void bodySymbols() {
        says(4, "which can be Z, S, the letters of functions that are defined already, and, if the arity is 2, y");
        behind(NOTHING, "11", "", "ZS", "");
        behind(NOTHING, "12", "", "ZS", "");
        behind(NOTHING, "21", "", "ZSy", "");
        behind(NOTHING, "22", "", "ZSy", "");
        behind(NOTHING, "11", "Z", ";", "");
        behind(NOTHING, "12", "Z;", "ZS", "");
        behind(NOTHING, "22", "Z;", "ZSy", "");
        behind(NOTHING, "12", "Z;Z", ";", "");
        behind(KNOWN, "11", "", "ZSabcd", "");
        behind(KNOWN, "21", "", "ZSyabcd", "");
        behind(KNOWN, "12", "Z;", "ZSabcd", "");
        behind(KNOWN, "22", "Z;", "ZSyabcd", "");
        behind(KNOWN, "22", "aZZ;b", "ZSyabcd", "");
        says(4, "in the last body also x and the letter of the function itself");
        behind(NOTHING, "11", "Z;", "Sa", "Zx");
        behind(NOTHING, "21", "Z;", "Sa", "Zxy");
        behind(NOTHING, "12", "Z;Z;", "Sa", "Zx");
        behind(NOTHING, "22", "y;Z;", "Sa", "Zxy");
        behind(KNOWN, "11", "Z;", "Sabcde", "Zx");
        behind(KNOWN, "21", "Z;", "Sabcde", "Zxy");
        behind(KNOWN, "12", "Z;Z;", "Sabcde", "Zx");
        behind(KNOWN, "22", "y;Z;", "Sabcde", "Zxy");
        behind(KNOWN, "22", "y;Z;a", "ZxySabcde", "");
    }

    private static void ownLetter() {
        says(4, "the letter of the function itself, directly behind which x must come");
        behind(NOTHING, "11", "Z;a", "", "x");
        behind(NOTHING, "12", "Z;Z;a", "", "x");
        behind(NOTHING, "21", "Z;a", "x", "");
        behind(NOTHING, "22", "Z;Z;Sa", "x", "");
        behind(NOTHING, "21", "Z;ax", "Sa", "Zxy");
        behind(NOTHING, "21", "Z;axa", "x", "");
        behind(NOTHING, "21", "Z;axax", "Sa", "Zxy");
        behind(NOTHING, "11", "Z;ax", "", "");
        behind(KNOWN, "11", "Z;e", "", "x");
        behind(KNOWN, "21", "Z;e", "x", "");
        behind(KNOWN, "21", "Z;be", "x", "");
        behind(KNOWN, "21", "Z;aex", "ZSxyabcde", "");
        behind(KNOWN, "21", "Z;aexy", "Sabcde", "Zxy");
        // The letters of other functions take any argument.
        behind(KNOWN, "11", "Z;b", "Sabcde", "Zx");
        Subject s = with("11Z;x", "11Z;x", "11Z;x", "11Z;x", "11Z;x");
        due("f", define(s, "11Z;fx"), 5);
    }

    /** Each body on its own has at most 10 symbols. */
    private static void bodySizes() {
        says(4, "A body is a term with at most 10 symbols");
        String s6 = times("S", 6), s7 = times("S", 7), s8 = times("S", 8), s9 = times("S", 9);
        for (String before : new String[] {"", "Z;", s9 + "Z;"}) {
            String kind = before.isEmpty() ? "21" : "22";
            behind(KNOWN, kind, before + s7, "ZSyabcd", "");
            behind(KNOWN, kind, before + s8, "ZSybd", "");
            behind(KNOWN, kind, before + s9, "Zy", "");
            behind(KNOWN, kind, before + s9 + "y", ";", "");
            behind(KNOWN, kind, before + s6 + "a", "ZSybd", "");
            behind(KNOWN, kind, before + s7 + "a", "Zy", "");
            behind(KNOWN, kind, before + "ay" + s7, "Zy", "");
            behind(KNOWN, kind, before + "aaaa", "ZSybd", "");
        }
        for (String before : new String[] {"Z;", s9 + "Z;"}) {
            behind(KNOWN, "21", before + s7, "Sabcde", "Zxy");
            behind(KNOWN, "21", before + s8, "Sbd", "Zxy");
            behind(KNOWN, "21", before + s9, "", "Zxy");
            behind(KNOWN, "21", before + s7 + "e", "x", "");
            behind(KNOWN, "21", before + s7 + "ex", "", "Zxy");
            behind(KNOWN, "21", before + s6 + "ex", "Sbd", "Zxy");
            behind(KNOWN, "11", before + s8, "Sbde", "Zx");
            behind(KNOWN, "11", before + s8 + "e", "", "x");
            behind(KNOWN, "11", before + s9, "", "Zx");
        }
        behind(KNOWN, "22", s9 + "Z;" + s9 + "y;" + s9, "", "Zxy");
        Subject s = with("22" + s9 + "Z;" + s8 + "SZ;" + s7 + "axy");
        for (int which = 0; which < 3; which++) {
            due("ofFunction(0, " + (2 + which) + ")", s.ofFunction(0, 2 + which), 10);
            due("body(0, " + which + ", 0)", s.body(0, which, 0), 'S');
            due("body(0, " + which + ", 9)", s.body(0, which, 9), which == 2 ? 'y' : 'Z');
        }
        s = with("22y;Z;x");
        for (int which = 0; which < 3; which++) {
            due("ofFunction(0, " + (2 + which) + ")", s.ofFunction(0, 2 + which), 1);
            due("body(0, " + which + ", 0)", s.body(0, which, 0), "yZx".charAt(which));
            due("body(0, " + which + ", 1)", s.body(0, which, 1), NONE);
            due("body(0, " + which + ", 9)", s.body(0, which, 9), NONE);
        }
    }

    private static void bodyEndsTooEarly() {
        says(4, "or the number of codes, if the tape ends too early");
        String[] texts = {"21Sayy;bSexSy", "22aZy;bbZ;cexSyx", "11bZ;aexex", "12Z;SZ;SSex"};
        for (String text : texts) {
            for (int n = 2; n < text.length(); n++) {
                String cut = text.substring(0, n);
                due(cut, define(with(KNOWN), cut), -100 - (n - 2));
            }
            due(text, define(with(KNOWN), text), 4);
        }
        String nine = times("S", 9);
        due("the longest one", define(with(KNOWN), "12" + nine + "Z;" + nine + "Z;" + nine), -131);
    }

    private static void functionFaults() {
        says(4, "the index, from 0, of the first code with which no such text continues, given the codes before it");
        Object[][] rows = {
            {"11 Z;x", 0}, {"11Z ;x", 1}, {"11Z; x", 2}, {"11Z;x ", 3}, {"11Z;x;", 3}, {"11Z,x", 1}, {"11;Z;x", 0},
            {"11ZZ;x", 1}, {"11Z;;x", 2}, {"11Z:x", 1}, {"11Z;xx", 3}, {"12Z;x;x", 2}, {"12Z;Z:x", 3}, {"12Z;Z;x;", 5},
            {"11y;x", 0}, {"11Z;y", 2}, {"21x;x", 0}, {"21z;x", 0}, {"21y;z", 2}, {"11S;x", 1}, {"11Z;S;", 3},
            {"11e;x", 0}, {"12Z;e;x", 2}, {"11f;x", 0}, {"11Z;f", 2}, {"11Z;ee", 3}, {"11Z;eSx", 3}, {"21y;eyx", 3},
            {"11aZ;x", 2}, {"11bZZ;x", 2}, {"11Z;ax;", 4}, {"11Z=x", 1}, {"11z;y", 0}, {"21y;Sexy;", 6},
        };
        for (Object[] row : rows) {
            due((String) row[0], define(with(KNOWN), (String) row[0]), -100 - (Integer) row[1]);
        }
    }

    /** The same tape, read with each arity and depth. */
    private static void numbersOfBodies() {
        says(4, "The text of a function consists of its bodies in the order above, separated by \";\"");
        String[] texts = {"Z;x", "Z;Z;x", "y;x", "y;y;x", "Z", "Z;Z;x;x"};
        int[][] answers = {
            {0, 0, -102, -102}, {-103, -103, 0, 0}, {-100, 0, -100, -102}, {-100, -103, -100, 0}, {-101, -101, -101, -101},
            {-103, -103, -105, -105},
        };
        for (int n = 0; n < texts.length; n++) {
            for (int kind = 0; kind < 4; kind++) {
                Subject s = new Subject();
                write(s, texts[n]);
                due(texts[n], s.function(1 + kind % 2, 1 + kind / 2), answers[n][kind]);
            }
        }
        Subject s = with("22Sy;SSy;SSSaxy");
        due("ofFunction(0, 2)", s.ofFunction(0, 2), 2);
        due("ofFunction(0, 3)", s.ofFunction(0, 3), 3);
        due("ofFunction(0, 4)", s.ofFunction(0, 4), 6);
        s = with("21Sy;SSSaxy");
        due("ofFunction(0, 2)", s.ofFunction(0, 2), 2);
        due("ofFunction(0, 3)", s.ofFunction(0, 3), NONE);
        due("ofFunction(0, 4)", s.ofFunction(0, 4), 6);
        for (int i = 0; i < 10; i++) {
            due("body(0, 1, " + i + ")", s.body(0, 1, i), NONE);
        }
        // The second body of a function that was there before must not be seen.
        s = with("12Z;SZ;ax");
        s.anew();
        due("11Z;x", define(s, "11Z;x"), 0);
        due("ofFunction(0, 3)", s.ofFunction(0, 3), NONE);
        due("body(0, 1, 0)", s.body(0, 1, 0), NONE);
    }

    private static void fullTapes() {
        says(2, "There is a tape with at most 48 codes from 0 to 127.");
        due("48 times S as a claim", state(with(KNOWN), times("S", 48)), -119);
        due("48 times S as a function", define(with(KNOWN), "11" + times("S", 48)), -109);
        due("48 codes 127", state(with(KNOWN), times("\u007f", 48)), -100);
        String claim = times("S", 19) + "Z=" + times("S", 19) + "Z";
        due("41 codes, and 7 more", state(with(KNOWN), claim + times("Z", 7)), -141);
        String function = times("S", 9) + "Z;" + times("S", 9) + "Z;" + times("S", 9) + "x";
        due("32 codes, and 16 more", define(with(KNOWN), "12" + function + times("x", 16)), -132);
        due("32 codes", define(with(KNOWN), "12" + function), 4);
        // What stood behind the present end of the tape does not count.
        Subject s = with(KNOWN);
        write(s, "axy=ayx");
        write(s, "axy=");
        due("the end of the tape", s.claim(), -104);
        write(s, "axy");
        due("the end of the tape", s.claim(), -103);
    }
}
