import java.util.ArrayList;
import java.util.List;
import java.util.Random;

/** Long mixed runs on the class and on PlainModel: each answer must be the same. The seeds are fixed. */
public final class ModelTest {
    private static final int RUNS = 4000;
    private static final int CALLS = 512;
    private static final int[] EDGES = {
        -2, -1, 0, 1, 2, 3, 4, 5, 16, 19, 20, 21, 199, 299, 300, 400, 599, 600, 999, 1000, 1001, Integer.MIN_VALUE,
        Integer.MAX_VALUE
    };
    private static final String[] PATHS = {
        "a@b", "s.t@h.x", "x-_+y@9", "Long.one+more@dom-ain.example", "l2345678@d2345678901234567890123456789012",
        "l234567@d2345678901234567890123456789012", "a@-b", "a.@b", "@b", "a@b.", "a"
    };
    private static final String[] COMMANDS = {
        "NOOP", "noop", "RSET", "QUIT", "HELO h", "EHLO a.b-c", "HELO", "HELO h.", "DATA", "data ", "MAIL FROM:<>",
        "VRFY", "", " ", "NOOP x", "Mail From:<q@r>", "RCPT TO:<>", "rcpt to:<q@r>", "MAIL FROM:<q@r", ".", ".."
    };
    private static final String[] FIELDS = {
        "a:b", "a-1: c", " on", "content-type:x", "", "", "bad", ":", " ", "..", ".a:b", "content-type: multipart/x",
        "CONTENT-TYPE:Multipart/boundary==b", "content-type:multipart/;boundary=b12345678901234567890"
    };

    private final Random random;
    private final SpooledPost post = new SpooledPost();
    private final PlainModel model = new PlainModel();
    private final List<String> told = new ArrayList<>();
    private boolean failed = false;

    private ModelTest(long seed) {
        random = new Random(seed);
    }

    public static void main(String[] args) {
        int wrong = 0;
        for (int seed = 0; seed < RUNS && wrong < 5; seed++) {
            ModelTest run = new ModelTest(seed);
            run.go();
            if (run.failed) {
                wrong++;
                System.out.println("seed " + seed + ": " + String.join("; ", run.told));
            }
        }
        System.out.println(wrong + " runs differ from the model");
        if (wrong != 0) {
            System.exit(1);
        }
    }

    private boolean open() {
        return !failed && told.size() < CALLS;
    }

    private void same(String call, long got, long want) {
        told.add(call + " = " + got);
        if (got != want) {
            failed = true;
            told.add("due is " + want);
        }
    }

    private int one(int bound) {
        return random.nextInt(bound);
    }

    private boolean seldom(int bound) {
        return one(bound) == 0;
    }

    private String pick(String[] from) {
        return from[one(from.length)];
    }

    private void go() {
        while (open()) {
            switch (one(12)) {
                case 0: case 1: case 2: case 3: sendLetter(); break;
                case 4: say(pick(COMMANDS)); break;
                case 5: typeAnything(); break;
                case 6: if (seldom(2)) { orderBreakdown(); } break;
                case 7: pass(); break;
                case 8: case 9: for (int i = one(5); i >= 0 && open(); i--) { reply(); } break;
                default: for (int i = one(12); i >= 0 && open(); i--) { ask(); } break;
            }
            if (open() && model.down && !seldom(4)) {
                same("restart()", post.restart(), model.restart());
            }
        }
    }

    private int number() {
        if (seldom(5)) {
            return EDGES[one(EDGES.length)];
        }
        return seldom(4) ? one(model.given + 2) : model.letter(one(model.letters() + 1));
    }

    private int small() {
        return seldom(8) ? EDGES[one(EDGES.length)] : one(6) - 1;
    }

    private void typeRow(long row) {
        if (open()) {
            same("type(" + row + "L)", post.type(row) ? 1 : 0, model.type(row) ? 1 : 0);
        }
    }

    private void enter() {
        if (open()) {
            same("enter()", post.enter(), model.enter());
        }
    }

    private void typeAnything() {
        switch (one(4)) {
            case 0: typeRow(random.nextLong()); break;
            case 1: typeRow(EDGES[one(EDGES.length)]); break;
            case 2: for (int i = 0; i < 10; i++) { typeRow(Desk.packed("12345678")); } break;
            default: typeRow(32 + one(96)); break;
        }
        if (!seldom(3)) {
            enter();
        }
    }

    private void say(String line) {
        for (int i = 0; i < line.length(); i += 8) {
            typeRow(Desk.packed(line.substring(i, Math.min(line.length(), i + 8))));
        }
        enter();
    }

    private void sendLetter() {
        if (model.state() == 1 || seldom(10)) {
            say("HELO h");
        }
        say("MAIL FROM:<" + (seldom(3) ? "" : PATHS[one(seldom(8) ? PATHS.length : 3)]) + ">");
        for (int i = seldom(6) ? 5 : 1 + one(2); i > 0; i--) {
            say("RCPT TO:<" + PATHS[one(seldom(8) ? PATHS.length : 3)] + ">");
        }
        if (seldom(8)) {
            return;
        }
        say("DATA");
        List<String> lines = new ArrayList<>();
        if (seldom(12)) {
            fill(lines);
        } else if (!seldom(4)) {
            compose(lines, 0, one(4) == 0 ? 6 : 3);
        }
        for (int i = 0; i < lines.size() && open(); i++) {
            say(lines.get(i));
            if (seldom(60)) {
                ask();
            }
        }
        if (seldom(4)) {
            orderBreakdown();
        }
        if (seldom(6)) {
            reply();
        }
        if (!seldom(10)) {
            say(".");
        }
    }

    /** Texts on both sides of the longest one. */
    private void fill(List<String> lines) {
        int left = 598 + one(5);
        while (left > 0) {
            int size = Math.min(left, 73);
            lines.add("f".repeat(size - 1));
            left -= size;
        }
    }

    private void compose(List<String> lines, int depth, int deepest) {
        for (int i = one(3); i > 1; i--) {
            lines.add(seldom(6) ? pick(FIELDS) : "a:" + depth);
        }
        if (depth >= deepest || seldom(3)) {
            lines.add("");
            if (seldom(2)) {
                lines.add(pick(FIELDS));
            }
            return;
        }
        String boundary = seldom(8) ? "0" : String.valueOf(depth);
        lines.add((seldom(2) ? "Content-type:" : "content-TYPE: ") + "multipart/boundary=" + boundary + (seldom(4) ? ";" : ""));
        if (seldom(8)) {
            lines.add(pick(FIELDS));
        }
        lines.add("");
        if (seldom(4)) {
            lines.add(pick(FIELDS));
        }
        int parts = seldom(5) ? 12 + one(5) : 1 + one(3);
        for (int i = 0; i < parts; i++) {
            lines.add("--" + boundary);
            if (parts < 12 || seldom(12)) {
                compose(lines, depth + 1, deepest);
            }
        }
        if (!seldom(15)) {
            lines.add("--" + boundary + "--");
        }
        if (seldom(4)) {
            lines.add(seldom(2) ? "--" + boundary : pick(FIELDS));
        }
    }

    private void orderBreakdown() {
        if (open()) {
            int n = seldom(4) ? EDGES[one(EDGES.length)] : one(4);
            same("breakAfter(" + n + ")", post.breakAfter(n) ? 1 : 0, model.breakAfter(n) ? 1 : 0);
        }
    }

    private void pass() {
        if (open()) {
            int n = seldom(3) ? EDGES[one(EDGES.length)] : one(20);
            same("pass(" + n + ")", post.pass(n), model.pass(n));
        }
    }

    private void reply() {
        if (open()) {
            int[] codes = {250, 200, 299, 450, 400, 499, 450, 550, 500, 599};
            int code = seldom(12) ? EDGES[one(EDGES.length)] : codes[one(codes.length)];
            same("next()", post.next(), model.next());
            if (open()) {
                same("reply(" + code + ")", post.reply(code), model.reply(code));
            }
        }
    }

    private void ask() {
        if (!open()) {
            return;
        }
        int m = number();
        int r = small();
        int i = seldom(6) ? one(602) : one(45) - 1;
        switch (one(12)) {
            case 0: same("state()", post.state(), model.state()); break;
            case 1: same("letters()", post.letters(), model.letters()); break;
            case 2: same("letter(" + r + ")", post.letter(r), model.letter(r)); break;
            case 3: same("text(" + m + ", " + i + ")", post.text(m, i), model.text(m, i)); break;
            case 4: same("path(" + m + ", " + r + ", " + i + ")", post.path(m, r, i), model.path(m, r, i)); break;
            case 5: same("recipient(" + m + ", " + r + ")", post.recipient(m, r), model.recipient(m, r)); break;
            case 6: same("due(" + m + ", " + r + ")", post.due(m, r), model.due(m, r)); break;
            case 7: case 8: same("parts(" + m + ")", post.parts(m), model.parts(m)); break;
            case 9: same("restart()", post.restart(), model.restart()); break;
            default:
                int k = seldom(3) ? one(18) : one(5);
                same("part(" + m + ", " + k + ", " + r + ")", post.part(m, k, r), model.part(m, k, r));
                break;
        }
    }
}
