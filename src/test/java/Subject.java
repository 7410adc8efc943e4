/** An object of the class that counts its calls, since nothing is promised after the 512th. */
final class Subject {
    private static final int PROMISED = 512;

    private final SteeredClaims claims = new SteeredClaims();
    private int calls = 0;

    private SteeredClaims next() {
        calls++;
        if (calls > PROMISED) {
            throw new IllegalStateException("this test asks an object more often than is promised");
        }
        return claims;
    }

    int calls() {
        return calls;
    }

    int type(int code) {
        return next().type(code);
    }

    int wipe() {
        return next().wipe();
    }

    int function(int arity, int depth) {
        return next().function(arity, depth);
    }

    int ofFunction(int f, int what) {
        return next().ofFunction(f, what);
    }

    int body(int f, int which, int i) {
        return next().body(f, which, i);
    }

    int claim() {
        return next().claim();
    }

    int side(int which, int i) {
        return next().side(which, i);
    }

    int anew() {
        return next().anew();
    }

    int value(int f, int m, int n, int what) {
        return next().value(f, m, n, what);
    }

    int holds(int x, int y, int z) {
        return next().holds(x, y, z);
    }

    int counter(int v) {
        return next().counter(v);
    }

    int normal(int which, int i) {
        return next().normal(which, i);
    }

    int scheme(int what) {
        return next().scheme(what);
    }

    int difference() {
        return next().difference();
    }

    int steered(int i) {
        return next().steered(i);
    }

    int common(int i) {
        return next().common(i);
    }

    int general(int which, int i) {
        return next().general(which, i);
    }

    int prove() {
        return next().prove();
    }

    int why(int k) {
        return next().why(k);
    }

    int script(int k, int what) {
        return next().script(k, what);
    }

    int lemma(int k, int which, int i) {
        return next().lemma(k, which, i);
    }

    int tested(int k, int what) {
        return next().tested(k, what);
    }

    int back() {
        return next().back();
    }

    int many(int what) {
        return next().many(what);
    }
}
