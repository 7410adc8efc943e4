/** Attempts: their levels, notes, causes and lemmas, with the limits of all of them. */
public final class AttemptTest extends Checks {
    // Addition by steps of two, and two functions that only look like addition: one is its second argument.
    private static final String BY_TWO = "22y;Sy;SSaxy", SECOND = "21y;axy", SUMMED = "21y;axSy";
    private static final String TWICE = "21Z;abxybxy";
    // Z up to 2.
    private static final String LESS_TWO = "12Z;Z;x";

    public static void main(String[] args) {
        refuted();
        withoutInduction();
        trivial();
        inductionNotes();
        uses();
        firstUse();
        firstLemma();
        chains();
        levelTwo();
        guesses();
        overflowOfNormalForms();
        overflowOfUse();
        overflowLater();
        lemmasStay();
        sidesOfLemmas();
        longLemma();
        sameLemmas();
        eightLemmas();
        eightLemmasOnTheWay();
        ninetyNineNotes();
        latestAttempt();
        end();
    }

    private static String[] functions(String... all) {
        return all;
    }

    private static Subject attempt(String[] functions, String claim, int kind, String script, int... causes) {
        Subject s = with(functions);
        attempted(s, claim, kind);
        scriptIs(s, script);
        causesAre(s, causes);
        return s;
    }

    private static void lemmasAre(Subject s, String... lemmas) {
        due("many(1)", s.many(1), lemmas.length);
        for (int k = 0; k < lemmas.length; k++) {
            lemmaIs(s, k, lemmas[k]);
        }
        due("behind the last lemma", s.lemma(lemmas.length, 0, NONE), UNKNOWN);
    }

    private static void refuted() {
        says(19, "If the claim has a counterexample, the attempt fails (kind 1, refuted).");
        attempt(functions(ADD), "Z=x", 1, "0:0 8:1", 1);
        attempt(functions(ADD), "axy=x", 1, "0:0 8:1", 1);
        // False for 2, or only for 3.
        lemmasAre(attempt(functions("12Z;Z;Sx"), "ax=Z", 1, "0:0 8:1", 1));
        attempt(functions(LESS_TWO), "ax=Z", 2, "0:0 2:20 3:0 3:1 3:2 5:1 6:-9 0:1 8:1 8:2", 2, 1);
        // For x = 2 the left side is not defined (62 calls); its normal form is Z, which is different from c(2).
        attempt(functions("11Z;Sax", "21Z;Z", "12Z;Z;SZ"), "baaaa" + times("S", 12) + "xaz=cx", 2,
                "0:0 2:20 3:0 3:1 3:2 5:0 6:-9 0:1 8:1 8:2", 2, 1);
        // There is a counterexample, although the normal forms would overflow.
        attempt(functions("11Z;Sax"), "aaa" + times("S", 16) + "Z=Z", 1, "0:0 8:1", 1);
    }

    private static void withoutInduction() {
        says(19, "If there is no induction variable, the attempt fails (kind 2, stuck).");
        attempt(functions(BY_TWO), "aSyZ=Sy", 2, "0:0 8:2", 2);
        attempt(functions("12Z;Z;ax"), "aSx=Z", 2, "0:0 8:2", 2);
        says(19, "Both sides are normalized; from here on, the claim is meant with these sides.");
        // Only the normal form has the call.
        attempt(functions(ADD), "aaZxZ=x", 0, "0:0 2:10 3:0 3:1 5:0 7:0");
    }

    private static void trivial() {
        says(19, "If both are equal, note 1 with 0, and the claim is proved.");
        lemmasAre(attempt(functions(ADD), "aSxy=Saxy", 0, "0:0 1:0 7:0"), "aSxy=Saxy");
        says(19, "the claim becomes a lemma, unless both sides are equal");
        lemmasAre(attempt(functions(ADD), "axy=axy", 0, "0:0 1:0 7:0"));
        lemmasAre(attempt(functions(), "Z=Z", 0, "0:0 1:0 7:0"));
        // Equal sides that are not normal: they are equal at the beginning, too.
        lemmasAre(attempt(functions(ADD), "aSxy=aSxy", 0, "0:0 1:0 7:0"));
    }

    private static void inductionNotes() {
        says(19, "note 2 with 10 * d + (0 for x, 1 for y, 2 for z). For each case c from 0 to d, note 3 with c");
        String[] variables = {"x", "y", "z"};
        for (int v = 0; v < 3; v++) {
            String claim = "a" + variables[v] + "Z=" + variables[v];
            attempt(functions(ADD), claim, 0, "0:0 2:1" + v + " 3:0 3:1 5:0 7:0");
            attempt(functions(BY_TWO), claim, 0, "0:0 2:2" + v + " 3:0 3:1 3:2 5:0 7:0");
        }
    }

    private static void uses() {
        says(19, "note 5 with 0. If there is no such position, at the first position of the right side; note 5 with 1.");
        attempt(functions(ADD), "axZ=x", 0, "0:0 2:10 3:0 3:1 5:0 7:0");
        attempt(functions(ADD), "x=axZ", 0, "0:0 2:10 3:0 3:1 5:0 7:0");
        attempt(functions(LESS_TWO, "11Z;bx"), "aax=bx", 2, "0:0 2:20 3:0 3:1 3:2 5:1 6:-9 0:1 2:20 3:0 3:1 3:2 6:-9 "
                + "0:2 8:1 8:2 8:2", 2, 2, 1);
        says(19, "If there is none either, nothing is replaced and noted.");
        attempt(functions(SECOND, LESS_TWO), "bz=abzZ", 2, "0:0 2:22 3:0 3:1 3:2 6:-9 0:1 8:1 8:2", 2, 1);
        says(19, "For each use of a lemma, note 4 with 100 * (number of the lemma) + 10 * (side) + direction.");
        Subject s = with(ADD, DOUBLE);
        proved(s, "axSy=Saxy");
        proved(s, "bx=axx");
        scriptIs(s, "0:0 2:10 3:0 3:1 4:10 5:0 7:0");
        s = with(ADD, DOUBLE);
        proved(s, "aZx=x");
        proved(s, "Saxy=axSy");
        proved(s, "axx=bx");
        scriptIs(s, "0:0 2:10 3:0 3:1 4:101 5:0 7:0");
    }

    private static void firstUse() {
        says(19, "Then the claim is used once: at the first position of the left side of the goal where the left side of the claim matches");
        // In Scbycbyx the whole of cbycbyx matches cbyx, and so does what stands inside.
        attempt(functions(ADD, "11SZ;SSbx", "22y;Z;Scxcxy"), "cbyx=y", 0, "0:0 2:11 3:0 3:1 5:0 7:0");
        says(19, "A pattern matches a term if it becomes this term when each of its variables is replaced by a term, the same one wherever it occurs.");
        // abxyy does not match abxSyy.
        attempt(functions(ADD, "21y;bxSy"), "abxyy=bxayy", 2,
                "0:0 2:10 3:0 3:1 6:-9 0:1 2:10 3:0 3:1 6:-9 0:2 2:10 3:0 3:1 8:2 8:2 8:2", 2, 2, 2, 4);
        says(19, "(v is fixed, it matches only v)");
        attempt(functions(SUMMED), "axy=axaZy", 0, "0:0 1:0 7:0");
        attempt(functions(SUMMED), "axZ=x", 2,
                "0:0 2:10 3:0 3:1 5:1 6:-9 0:1 2:10 3:0 3:1 6:-9 0:2 2:10 3:0 3:1 8:2 8:2 8:2", 2, 2, 2, 4);
    }

    private static void firstLemma() {
        says(19, "for each lemma in ascending order, and for each direction");
        Subject s = with(ADD, DOUBLE);
        proved(s, "axSy=Saxy");
        proved(s, "aySx=Sayx");
        proved(s, "bx=axx");
        scriptIs(s, "0:0 2:10 3:0 3:1 4:10 5:0 7:0");
        // The direction 1 of the first lemma comes before the direction 0 of the second one.
        s = with(ADD, DOUBLE);
        proved(s, "Saxy=axSy");
        proved(s, "axSy=Saxy");
        proved(s, "bx=axx");
        scriptIs(s, "0:0 2:10 3:0 3:1 4:11 5:0 7:0");
        // Both directions of byx=bxy do the same.
        s = with(SECOND, "21Z;aybxy", "11SZ;aSxcx");
        proved(s, "byx=bxy");
        lemmasAre(s, "byZ=Z", "axayz=ayaxz", "bySx=aybyx", "byx=bxy");
        attempted(s, "bxbxaxx=axbxcx", 3);
        scriptIs(s, "0:0 2:10 3:0 3:1 4:110 6:-9 0:1 2:10 3:0 3:1");
    }

    private static void chains() {
        says(20, "1 for the kind of its cause, 2 for the cause of this cause, and so on");
        lemmasAre(attempt(functions(ADD, LESS_TWO), "aaxybx=ayx", 2,
                "0:0 2:20 3:0 3:1 6:-9 0:1 2:11 3:0 3:1 5:0 7:1 3:2 6:-9 0:1 8:1 8:2", 2, 1), "SayZ=aySZ");
        attempt(functions(BY_TWO), "aSxy=aySx", 2, "0:0 2:21 3:0 6:-9 0:1 8:2 8:2", 2, 2);
        attempt(functions(SECOND, LESS_TWO), "bx=by", 2,
                "0:0 2:20 3:0 6:-9 0:1 2:21 3:0 3:1 3:2 5:0 6:-9 0:2 8:1 8:2 8:2", 2, 2, 1);
        attempt(functions(BY_TWO), "aaSxzy=axaySz", 2, "0:0 2:20 3:0 6:-9 0:1 2:21 3:0 6:-9 0:2 8:2 8:2 8:2", 2, 2, 2);
    }

    private static void levelTwo() {
        says(19, "At level 2, the attempt fails (stuck, with the cause kind 4, depth).");
        attempt(functions(SUMMED), "axZ=x", 2,
                "0:0 2:10 3:0 3:1 5:1 6:-9 0:1 2:10 3:0 3:1 6:-9 0:2 2:10 3:0 3:1 8:2 8:2 8:2", 2, 2, 2, 4);
        attempt(functions(SECOND), "azz=ayaxz", 2,
                "0:0 2:10 3:0 6:-9 0:1 2:11 3:0 6:-9 0:2 2:12 3:0 3:1 5:1 8:2 8:2 8:2", 2, 2, 2, 4);
        // In a case that is not the last one.
        lemmasAre(attempt(functions(SECOND), "ayy=azaxy", 2, "0:0 2:10 3:0 6:-9 0:1 2:11 3:0 6:-9 0:2 2:12 3:0 3:1 5:0 "
                + "7:2 3:1 6:-9 0:2 2:11 3:0 8:2 8:2 8:2", 2, 2, 2, 4), "Z=azZ");
        says(19, "An attempt to prove the guess is made at the next level. If it is proved, the case is done");
        lemmasAre(attempt(functions(SECOND), "aaxxaxy=aaxxy", 0, "0:0 2:10 3:0 3:1 6:2 0:1 2:12 3:0 6:-9 0:2 2:10 3:0 3:1 "
                + "5:0 7:2 3:1 5:0 7:1 7:0"), "axy=y", "azaxy=azy", "aaxxaxy=aaxxy");
    }

    private static void guesses() {
        says(19, "Note 6 with the variable that was introduced (0 to 2), or with NONE if the guess is the goal itself.");
        attempt(functions(SECOND), "axaxx=axx", 0, "0:0 2:10 3:0 3:1 6:1 0:1 2:10 3:0 3:1 5:0 7:1 7:0");
        attempt(functions(SECOND), "azazz=azz", 0, "0:0 2:12 3:0 3:1 6:0 0:1 2:12 3:0 3:1 5:0 7:1 7:0");
        attempt(functions(BY_TWO), "aSxaaxyx=aaSxayxx", 2, "0:0 2:20 3:0 6:0 0:1 8:2 8:2", 2, 2);
        lemmasAre(attempt(functions(SECOND), "axx=ayaxaxx", 0, "0:0 2:10 3:0 6:-9 0:1 2:11 3:0 3:1 5:0 7:1 3:1 6:2 0:1 "
                + "2:10 3:0 6:-9 0:2 2:11 3:0 3:1 5:0 7:2 3:1 5:0 7:1 7:0"), "Z=ayZ", "z=ayz", "z=ayaxz", "axx=ayaxaxx");
        says(19, "or the goal itself, if this generalization has a counterexample or is the goal itself");
        // The generalization of azZ=aazZZ is x=axZ, which is false here.
        lemmasAre(attempt(functions(SECOND), "azZ=aaaxzZZ", 0,
                "0:0 2:10 3:0 6:-9 0:1 2:12 3:0 3:1 5:0 7:1 3:1 5:0 7:0"), "azZ=aazZZ", "azZ=aaaxzZZ");
        // No variable is left for the common subterm azy.
        lemmasAre(attempt(functions(ADD), "axazy=aazxy", 0,
                "0:0 2:12 3:0 3:1 5:1 6:-9 0:1 2:10 3:0 3:1 5:0 7:1 7:0"), "axSazy=Saxazy", "axazy=aazxy");
    }

    private static void overflowOfNormalForms() {
        says(19, "If anything overflows, all attempts end at once (kind 3, overflow), and nothing more is noted.");
        // At the beginning: 50 bodies for each side, and then 51 for one of them.
        String fifty = "aaaaa" + times("S", 9) + "Z", more = "aaa" + times("S", 16) + "Z";
        attempt(functions("11Z;Sax"), fifty + "=" + fifty, 0, "0:0 1:0 7:0");
        attempt(functions("11Z;Sax"), fifty + "=" + times("S", 9) + "Z", 0, "0:0 1:0 7:0");
        attempt(functions("11Z;Sax"), more + "=" + more, 3, "0:0", 3);
        attempt(functions("11Z;Sax"), more + "=" + times("S", 16) + "Z", 3, "0:0", 3);
        attempt(functions("11Z;Sax"), times("S", 16) + "Z=" + more, 3, "0:0", 3);
        // 40 symbols, and 41.
        String forty = "SSa" + times("S", 9) + "x";
        attempt(functions("11Z;SSSSax"), forty + "=" + forty, 0, "0:0 1:0 7:0");
        attempt(functions("11Z;SSSSax"), "S" + forty + "=S" + forty, 3, "0:0", 3);
        attempt(functions(SECOND, TWICE), "bSxbSxbSyZ=Z", 3, "0:0", 3);
        // In the first case, in the second one, and in the last one of depth 2.
        attempt(functions(SUMMED, TWICE), "baSySzbSzSx=bbySZbyx", 3, "0:0 2:11 3:0", 3);
        attempt(functions(SUMMED, TWICE), "Z=bSzbzz", 3, "0:0 2:12 3:0 3:1", 3);
        attempt(functions(ADD, "22Z;y;aybxy"), "bxbxbxx=x", 3, "0:0 2:20 3:0 3:1 3:2", 3);
        // After the claim has been used.
        attempt(functions(SUMMED, TWICE), "bSyayx=bbSySybSxx", 3, "0:0 2:11 3:0 3:1 5:0", 3);
        // At the next levels.
        attempt(functions(ADD, TWICE), "bxx=baaxxSxx", 3, "0:0 2:10 3:0 3:1 6:-9 0:1 2:10 3:0", 3);
        attempt(functions(SUMMED, TWICE), "bxx=baSxxbxx", 3, "0:0 2:10 3:0 3:1 6:-9 0:1 2:10 3:0 3:1 6:1 0:2 2:10 3:0", 3);
    }

    /** cy is never defined, so nothing with cy has a counterexample; its right neighbour counts by fours. */
    private static String[] undefined(String fourth, String fifth) {
        String never = "b" + times("S", 8) + "Z";
        return functions("11Z;SSSSax", "11SZ;abx", "11" + never + ";" + never, fourth, fifth);
    }

    private static void overflowOfUse() {
        says(19, "If a side would get more than 40 symbols by this, the attempt overflows, without this note.");
        String big = "a" + times("S", 8);
        // 3 + 37 symbols, and 4 + 37.
        attempt(undefined("21" + big + "y;SSSdxy", "21y;exy"), "dxcy=ex" + big + "cy", 3,
                "0:0 2:10 3:0 3:1 5:0 6:-9 0:1 2:10 3:0 6:-9 0:2 2:11 3:0", 3);
        attempt(undefined("21" + big + "y;SSSSdxy", "21y;exy"), "dxcy=ex" + big + "cy", 3, "0:0 2:10 3:0 3:1", 3);
        // The same on the right side.
        attempt(undefined("21" + big + "y;SSSdxy", "21y;exSy"), "ex" + big + "cy=dxcy", 3,
                "0:0 2:10 3:0 3:1 5:1 6:-9 0:1 2:10 3:0 6:-9 0:2 2:11 3:0", 3);
        attempt(undefined("21" + big + "y;SSSSdxy", "21y;exSy"), "ex" + big + "cy=dxcy", 3, "0:0 2:10 3:0 3:1", 3);
    }

    private static void overflowLater() {
        says(19, "If anything overflows, all attempts end at once (kind 3, overflow), and nothing more is noted.");
        Subject s = with(SUMMED, "11Z;bx", "21Z;acxycxy");
        proved(s, "axbx=x");
        lemmasAre(s, "axSy=Saxy", "axbx=x");
        attempted(s, "ccazSzazyy=ccZZZ", 3);
        scriptIs(s, "0:0 2:12 3:0 3:1 4:0 4:0 4:0 5:1");
        causesAre(s, 3);
        lemmasAre(s, "axSy=Saxy", "axbx=x");
        s = with(ADD, TWICE);
        proved(s, "ayx=axy");
        attempted(s, "bSxx=baxSxaxaxx", 3);
        scriptIs(s, "0:0 2:10 3:0 3:1 4:110 4:110 4:110 4:110");
        lemmasAre(s, "ayZ=y", "aySx=Sayx", "ayx=axy");
        // An overflow does not disturb the next attempt.
        s = attempt(functions(SECOND, TWICE), "abxxx=x", 3,
                "0:0 2:10 3:0 3:1 5:1 6:-9 0:1 2:10 3:0 3:1 6:-9 0:2 2:10 3:0 3:1", 3);
        attempted(s, "x=x", 0);
        scriptIs(s, "0:0 1:0 7:0");
        causesAre(s);
    }

    private static void lemmasStay() {
        says(19, "Lemmas that were proved on the way stay, whatever happens then.");
        lemmasAre(attempt(functions(SECOND, "12Z;SZ;abxbx", "21Z;aycxy"), "cyby=cxayy", 3,
                "0:0 2:21 3:0 6:-9 0:1 2:10 3:0 3:1 5:0 7:1 3:1 6:-9 0:1 2:10 3:0 3:1 5:0 7:1 3:2 6:-9 0:1 2:21 3:0 6:-9 0:2 "
                + "2:10 3:0 3:1 5:0 7:2 3:1 6:-9 0:2 2:10 3:0 3:1 5:0 7:2 3:2", 3), "Z=cxZ", "Z=cxSZ", "Z=cxSSZ", "Z=cxSSSZ");
        lemmasAre(attempt(functions(SECOND, TWICE), "aybSxbxy=Z", 3,
                "0:0 2:10 3:0 6:-9 0:1 2:11 3:0 3:1 5:0 7:1 3:1", 3), "ayZ=Z");
        lemmasAre(attempt(functions(BY_TWO), "ayz=aayzZ", 2,
                "0:0 2:21 3:0 6:-9 0:1 2:22 3:0 3:1 3:2 5:0 7:1 3:1 6:-9 0:1 8:2 8:2", 2, 2), "z=azZ");
    }

    private static void sidesOfLemmas() {
        says(19, "the claim becomes a lemma, with its sides as they were at the beginning of the attempt");
        lemmasAre(attempt(functions(ADD), "aSxSy=SSaxy", 0, "0:0 2:10 3:0 3:1 5:0 7:0"), "aSxSy=SSaxy");
        lemmasAre(attempt(functions(ADD), "aaZxZ=aZx", 0, "0:0 2:10 3:0 3:1 5:0 7:0"), "aaZxZ=aZx");
        Subject s = with(BY_TWO);
        proved(s, "axSy=Saxy");
        proved(s, "aaaxaxxxaSxaxx=aaxaxxaxaxaSxx");
        due("many(3)", s.many(3), 98);
        lemmasAre(s, "axSy=Saxy", "SSSSaaySSZSSSSSSSSSZ=SSSSaySSSSSSSSSSSZ", "SSSSaaySSSZSSSSSSSSSSSSZ=SSSSaySSSSSSSSSSSSSSSZ",
                "SSSSaaySSxSSSSSSSSaSxaxx=SSSSaySSSSSSSSSSaxaxaSxx", "aaaxaxxxaSxaxx=aaxaxxaxaxaSxx");
    }

    /** a(x, y) = 7 * x + y, b(x, y) = y, c(x, y) = 8 + y: in case 0 the right side becomes S c b z SS..y, with 8 for c. */
    private static void longLemma() {
        says(22, "NONE for the size, or a position, 0 to 39");
        String[] functions = functions("21y;SSSSSSSaxy", "21y;bxy", "21SSSSSSSSy;cxy");
        String right = times("S", 9) + "bz" + times("S", 28) + "y";
        Subject s = attempt(functions, "ScxaSSSSZy=ScxbzaSSSSZy", 0,
                "0:0 2:10 3:0 6:-9 0:1 2:12 3:0 3:1 5:0 7:1 3:1 5:0 7:0");
        lemmasAre(s, times("S", 37) + "y=" + right, "ScxaSSSSZy=ScxbzaSSSSZy");
        due("lemma(0, 0, 37)", s.lemma(0, 0, 37), 'y');
        due("lemma(0, 0, 38)", s.lemma(0, 0, 38), NONE);
        due("lemma(0, 0, 39)", s.lemma(0, 0, 39), NONE);
        due("lemma(0, 1, 38)", s.lemma(0, 1, 38), 'S');
        due("lemma(0, 1, 39)", s.lemma(0, 1, 39), 'y');
        due("lemma(0, 1, 40)", s.lemma(0, 1, 40), OUTSIDE);
        says(19, "If anything overflows, all attempts end at once (kind 3, overflow), and nothing more is noted.");
        lemmasAre(attempt(functions, "SScxaSSSSZy=SScxbzaSSSSZy", 3, "0:0 2:10 3:0", 3));
    }

    private static void sameLemmas() {
        says(19, "there is a lemma with the same sides already");
        Subject s = with(ADD);
        for (int n = 0; n < 3; n++) {
            proved(s, "axZ=x");
            lemmasAre(s, "axZ=x");
        }
        // The sides exchanged, or with other variables, are other sides.
        proved(s, "x=axZ");
        proved(s, "ayZ=y");
        lemmasAre(s, "axZ=x", "x=axZ", "ayZ=y");
        proved(s, "axZ=x");
        proved(s, "ayZ=y");
        lemmasAre(s, "axZ=x", "x=axZ", "ayZ=y");
        // A lemma that came from a generalization is known as well.
        s = with(SECOND);
        proved(s, "axx=axaxx");
        lemmasAre(s, "y=axy", "axx=axaxx");
        proved(s, "y=axy");
        lemmasAre(s, "y=axy", "axx=axaxx");
        // A lemma that has been removed is not there any more.
        s = with(ADD);
        proved(s, "axZ=x");
        due("back()", s.back(), 0);
        due("prove()", s.prove(), 0);
        lemmasAre(s, "axZ=x");
        due("anew()", s.anew(), 1);
        due("function", define(s, ADD), 0);
        proved(s, "axZ=x");
        lemmasAre(s, "axZ=x");
        // One side only is the same.
        s = with(ADD);
        proved(s, "axZ=x");
        proved(s, "axZ=aZx");
        proved(s, "aZx=x");
        lemmasAre(s, "axZ=x", "axZ=aZx", "aZx=x");
    }

    private static final String[] EIGHT = {"aZx=x", "x=aZx", "aZy=y", "aZz=z", "aSZx=Sx", "aSZy=Sy", "aSZz=Sz", "aSSZx=SSx"};

    private static Subject withLemmas(String[] functions, int count) {
        Subject s = with(functions);
        for (int k = 0; k < count; k++) {
            proved(s, EIGHT[k]);
            due("many(1)", s.many(1), k + 1);
        }
        return s;
    }

    private static void eightLemmas() {
        says(19, "or there are 8 lemmas");
        Subject s = withLemmas(functions(ADD), 7);
        proved(s, "axZ=x");
        due("many(1)", s.many(1), 8);
        lemmaIs(s, 7, "axZ=x");
        s = withLemmas(functions(ADD), 8);
        proved(s, "axZ=x");
        scriptIs(s, "0:0 2:10 3:0 3:1 5:0 7:0");
        lemmasAre(s, EIGHT);
        // After back() there is room for one.
        due("back()", s.back(), 7);
        due("prove()", s.prove(), 0);
        due("many(1)", s.many(1), 8);
        lemmaIs(s, 7, "axZ=x");
    }

    private static void eightLemmasOnTheWay() {
        says(19, "or there are 8 lemmas");
        String claim = "ayx=abxby";
        String[] way = {"SayZ=aSyZ", "x=abxZ", "SaySZ=aSySZ", "Sx=abxSZ", "SSazZ=azSSZ", "SSazSx=azSSSx", "SSazby=azSSby", claim};
        for (int before = 0; before <= 2; before++) {
            Subject s = withLemmas(functions(BY_TWO, "11Z;Sbx"), before);
            proved(s, claim);
            due("many(3)", s.many(3), 59);
            String[] all = new String[8];
            for (int k = 0; k < 8; k++) {
                all[k] = k < before ? EIGHT[k] : way[k - before];
            }
            lemmasAre(s, all);
        }
        // An attempt that fails at last with 8 lemmas.
        Subject s = with(BY_TWO);
        attempted(s, "aazyx=aayZaxz", 2);
        due("many(3)", s.many(3), 80);
        causesAre(s, 2, 2, 2, 4);
        lemmasAre(s, "aazZZ=z", "aazSZZ=Sz", "aazSSyZ=SSaazyZ", "aazyZ=aayZz", "aazZSZ=Sz", "aazSZSZ=SSz", "aazSSySZ=SSaazySZ",
                "aazySZ=aayZSz");
    }

    private static void ninetyNineNotes() {
        says(19, "only the first 99 notes of it are kept");
        String[] claims = {"aaaxxxaaxyx=aaxaxaxayxx", "aaaxxxayaxx=aaaxaxxxaxy", "aaxxaxaxSx=aaxaxaSxxx"};
        String[] ends = {"2:20 3:0 8:2 8:2 8:2", "2:20 3:0 8:2 8:2 8:2", "4:10 4:10 4:10 8:2 8:2"};
        for (int n = 0; n < 3; n++) {
            int kept = Math.min(98 + n, 99);
            Subject s = with(BY_TWO);
            proved(s, "axSy=Saxy");
            attempted(s, claims[n], 2);
            due("many(3)", s.many(3), kept);
            due("script(0, 0)", s.script(0, 0), 0);
            String[] end = ends[n].split(" ");
            for (int k = 0; k < 5; k++) {
                String[] note = end[k].split(":");
                due("script(" + (kept - 5 + k) + ", 0)", s.script(kept - 5 + k, 0), Integer.parseInt(note[0]));
                due("script(" + (kept - 5 + k) + ", 1)", s.script(kept - 5 + k, 1), Integer.parseInt(note[1]));
            }
            due("script(98, 0)", s.script(98, 0), n == 0 ? NONE : 8);
            due("script(98, 1)", s.script(98, 1), n == 0 ? NONE : 2);
            due("script(99, 0)", s.script(99, 0), OUTSIDE);
            causesAre(s, 2, 2, 2, 4);
            // The next attempt has all its notes again.
            proved(s, "axZ=x");
            scriptIs(s, "0:0 2:20 3:0 3:1 3:2 5:0 7:0");
            causesAre(s);
        }
    }

    private static void latestAttempt() {
        says(19, "The script is empty before it.");
        Subject s = with(SUMMED);
        attempted(s, "axZ=x", 2);
        due("many(3)", s.many(3), 18);
        attempted(s, "x=y", 1);
        scriptIs(s, "0:0 8:1");
        causesAre(s, 1);
        due("script(2, 0)", s.script(2, 0), NONE);
        due("the claim stays", s.side(1, 0), 'y');
        due("the tape stays", s.many(2), 3);
        due("the functions stay", s.many(0), 1);
        attempted(s, "x=x", 0);
        scriptIs(s, "0:0 1:0 7:0");
        says(20, "NONE if there are not so many causes, if the claim was proved, or if there was no attempt");
        causesAre(s);
        says(19, "Makes an attempt to prove the present claim (which stays as it is, not normalized)");
        Subject other = with(ADD);
        proved(other, "aSxSy=SSaxy");
        due("side(0, 1)", other.side(0, 1), 'S');
        due("side(1, 2)", other.side(1, 2), 'a');
        due("back()", other.back(), 0);
        scriptIs(other, "0:0 2:10 3:0 3:1 5:0 7:0");
        says(21, "Returns a note of the script of the latest attempt (of prove()).");
        claimed(s, "axZ=x");
        scriptIs(s, "0:0 1:0 7:0");
        due("prove()", s.prove(), 2);
        due("many(3)", s.many(3), 18);
        due("anew()", s.anew(), 1);
        due("many(3)", s.many(3), 0);
        causesAre(s);
        due("prove()", s.prove(), STATE);
        causesAre(s);
    }
}
