/** The face with its calls counted: behind the 512th nothing is promised, so a test that goes there proves nothing. */
final class CountedPost {
    static final int MOST_CALLS = 512;
    private final SpooledPost post = new SpooledPost();
    private int calls = 0;

    int calls() {
        return calls;
    }

    private SpooledPost counted() {
        calls++;
        if (calls == MOST_CALLS + 1) {
            Desk.due("calls of one object", calls, MOST_CALLS);
        }
        return post;
    }

    boolean type(long row) {
        return counted().type(row);
    }

    int enter() {
        return counted().enter();
    }

    boolean breakAfter(int n) {
        return counted().breakAfter(n);
    }

    int restart() {
        return counted().restart();
    }

    int pass(int n) {
        return counted().pass(n);
    }

    int next() {
        return counted().next();
    }

    int reply(int code) {
        return counted().reply(code);
    }

    int state() {
        return counted().state();
    }

    int letters() {
        return counted().letters();
    }

    int letter(int k) {
        return counted().letter(k);
    }

    char text(int m, int i) {
        return counted().text(m, i);
    }

    char path(int m, int r, int i) {
        return counted().path(m, r, i);
    }

    int recipient(int m, int r) {
        return counted().recipient(m, r);
    }

    int due(int m, int r) {
        return counted().due(m, r);
    }

    int parts(int m) {
        return counted().parts(m);
    }

    int part(int m, int k, int what) {
        return counted().part(m, k, what);
    }
}
