/** An object under test that counts its calls: nothing is promised behind the 512th. */
final class Counted {
    private static final int MOST_CALLS = 512;

    private final LanguageTags object = new LanguageTags();
    private int calls = 0;

    private LanguageTags next() {
        calls++;
        if (calls > MOST_CALLS) {
            throw new IllegalStateException("a test makes more calls than the document allows");
        }
        return object;
    }

    int callsLeft() {
        return MOST_CALLS - calls;
    }

    boolean type(char c) {
        return next().type(c);
    }

    void wipe() {
        next().wipe();
    }

    int alias(boolean regions) {
        return next().alias(regions);
    }

    int read() {
        return next().read();
    }

    int pair(boolean parent) {
        return next().pair(parent);
    }

    int show(int t, int kind) {
        return next().show(t, kind);
    }

    char shown(int i) {
        return next().shown(i);
    }

    int tags() {
        return next().tags();
    }

    boolean support(int t) {
        return next().support(t);
    }

    boolean fits(int range, int t) {
        return next().fits(range, t);
    }

    int lookup(int t) {
        return next().lookup(t);
    }

    int distance(int a, int b) {
        return next().distance(a, b);
    }

    int best(int t) {
        return next().best(t);
    }

    boolean put(int t, int key, int v) {
        return next().put(t, key, v);
    }

    int get(int t, int key) {
        return next().get(t, key);
    }

    int found() {
        return next().found();
    }
}
