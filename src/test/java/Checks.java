import java.util.ArrayList;
import java.util.List;
import java.util.Map;
import java.util.WeakHashMap;

/** What the tests share: calls with the answers that are due, and a look at all that can be seen of an object. */
abstract class Checks {
    static final int UNKNOWN = -1, OUTSIDE = -2, STATE = -3, FULL = -4, NONE = -9;
    static final int LEAST = Integer.MIN_VALUE, GREATEST = Integer.MAX_VALUE;
    static final String ADD = "21y;Saxy", DOUBLE = "11Z;SSbx";

    private static int wrong = 0;
    static int promise = 0;
    private static String sentence = "";

    /** Makes the same object each time. */
    interface Maker {
        Subject make();
    }

    interface Call {
        int on(Subject s);
    }

    /** The sentence of the document that the next checks are for. */
    static void says(int ofPromise, String words) {
        promise = ofPromise;
        sentence = words;
    }

    static void end() {
        if (wrong != 0) {
            System.out.println(wrong + " answers are not as due");
            System.exit(1);
        }
    }

    static void complain(String what) {
        wrong++;
        if (wrong <= 50) {
            System.out.println("promise " + promise + (sentence.isEmpty() ? "" : ", \"" + sentence + "\"") + ": " + what);
        }
    }

    static void due(String call, int got, int want) {
        if (got != want) {
            complain(call + " answered " + got + ", due is " + want);
        }
    }

    static String times(String text, int n) {
        return text.repeat(n);
    }

    static void write(Subject s, String text) {
        s.wipe();
        for (int i = 0; i < text.length(); i++) {
            due("type in " + text, s.type(text.charAt(i)), i + 1);
        }
    }

    /** Each text begins with the arity and the depth. */
    static Subject with(String... functions) {
        Subject s = new Subject();
        for (int i = 0; i < functions.length; i++) {
            due(functions[i], define(s, functions[i]), i);
        }
        return s;
    }

    static int define(Subject s, String text) {
        write(s, text.substring(2));
        return s.function(text.charAt(0) - '0', text.charAt(1) - '0');
    }

    static int state(Subject s, String text) {
        write(s, text);
        return s.claim();
    }

    static void claimed(Subject s, String text) {
        due(text, state(s, text), text.length() - 1);
    }

    static void attempted(Subject s, String text, int kind) {
        claimed(s, text);
        due("prove() of " + text, s.prove(), kind);
    }

    static void proved(Subject s, String text) {
        attempted(s, text, 0);
    }

    /** The notes of the script, as "kind:number kind:number ..". */
    static void scriptIs(Subject s, String notes) {
        StringBuilder b = new StringBuilder();
        for (int k = 0; k < s.many(3); k++) {
            b.append(k == 0 ? "" : " ").append(s.script(k, 0)).append(':').append(s.script(k, 1));
        }
        if (!b.toString().equals(notes)) {
            complain("the script is " + b + ", due is " + notes);
        }
    }

    static void causesAre(Subject s, int... kinds) {
        for (int k = 0; k <= 9; k++) {
            due("why(" + k + ")", s.why(k), k < kinds.length ? kinds[k] : NONE);
        }
    }

    static void lemmaIs(Subject s, int k, String text) {
        String[] sides = text.split("=");
        for (int which = 0; which < 2; which++) {
            due("size of " + text, s.lemma(k, which, NONE), sides[which].length());
            for (int i = 0; i < sides[which].length(); i++) {
                due("lemma " + text, s.lemma(k, which, i), sides[which].charAt(i));
            }
            due("behind " + text, s.lemma(k, which, sides[which].length()), sides[which].length() < 40 ? NONE : OUTSIDE);
        }
    }

    /** A call that is refused: the answer, and that nothing which can be seen has changed. */
    static void refused(String name, Maker maker, Call call, int want) {
        due(name, call.on(maker.make()), want);
        unchanged(name, maker, call);
    }

    private static final Map<Maker, List<List<Integer>>> seen = new WeakHashMap<>();

    static void unchanged(String name, Maker maker, Call call) {
        List<List<Integer>> before = seen.computeIfAbsent(maker, m -> views(m, s -> 0));
        if (!views(maker, call).equals(before)) {
            complain(name + " has changed something");
        }
    }

    /** All that can be seen of an object after a call, on a new object for each part, to keep to the 512 calls. */
    private static List<List<Integer>> views(Maker maker, Call call) {
        List<List<Integer>> all = new ArrayList<>();
        for (int part = 0; part < 8; part++) {
            Subject s = maker.make();
            call.on(s);
            all.add(view(s, part));
        }
        return all;
    }

    private static List<Integer> view(Subject s, int part) {
        List<Integer> view = new ArrayList<>();
        switch (part) {
            case 0 -> seeFunctions(s, view);
            case 1 -> seeClaim(s, view);
            case 2 -> seeScript(s, view);
            case 3 -> seeLemmas(s, view);
            case 4 -> {
                view.add(s.claim());
                seeClaim(s, view);
            }
            case 5 -> {
                for (int kind = 0; kind < 4; kind++) {
                    view.add(s.function(1 + kind % 2, 1 + kind / 2));
                }
                seeFunctions(s, view);
            }
            case 6 -> {
                view.add(s.type('x'));
                view.add(s.claim());
                view.add(s.wipe());
                view.add(s.claim());
                seeClaim(s, view);
            }
            default -> {
                view.add(s.prove());
                seeScript(s, view);
                view.add(s.back());
                view.add(s.anew());
            }
        }
        return view;
    }

    private static void seeFunctions(Subject s, List<Integer> view) {
        for (int what = 0; what < 4; what++) {
            view.add(s.many(what));
        }
        for (int f = 0; f < 6; f++) {
            for (int what = 0; what < 5; what++) {
                view.add(s.ofFunction(f, what));
            }
            for (int which = 0; which < 3; which++) {
                for (int i = 0; i < 10 && s.body(f, which, i) > 0; i++) {
                    view.add(s.body(f, which, i));
                }
            }
        }
    }

    private static void seeClaim(Subject s, List<Integer> view) {
        for (int which = 0; which < 2; which++) {
            for (int i = 0; i < 20; i++) {
                view.add(s.side(which, i));
            }
            view.add(s.normal(which, NONE));
            view.add(s.general(which, NONE));
        }
        for (int what = 0; what < 3; what++) {
            view.add(s.counter(what));
            view.add(s.scheme(what));
        }
        view.add(s.difference());
        view.add(s.steered(NONE));
        view.add(s.common(NONE));
        view.add(s.holds(1, 2, 3));
    }

    private static void seeScript(Subject s, List<Integer> view) {
        view.add(s.many(3));
        for (int k = 0; k < 10; k++) {
            view.add(s.why(k));
        }
        for (int k = 0; k < s.many(3); k++) {
            view.add(s.script(k, 0));
            view.add(s.script(k, 1));
        }
    }

    private static void seeLemmas(Subject s, List<Integer> view) {
        view.add(s.many(1));
        for (int k = 0; k < 8; k++) {
            for (int which = 0; which < 2; which++) {
                view.add(s.lemma(k, which, NONE));
                for (int i = 0; i < s.lemma(k, which, NONE); i++) {
                    view.add(s.lemma(k, which, i));
                }
            }
        }
    }
}
