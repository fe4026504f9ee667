import java.util.ArrayList;
import java.util.List;
import java.util.function.Supplier;
import java.util.function.ToLongFunction;

/**
 * "A call that is refused changes nothing": in each situation two objects are made alike, one of them gets the refused
 * call, and then both must answer alike whatever brings their whole state to light. The same is done with questions.
 */
public final class RefusedTest {
    private static final int LEAST = Integer.MIN_VALUE;
    private static final int MOST = Integer.MAX_VALUE;

    private final String situation;
    private final Supplier<Desk> maker;

    private RefusedTest(String situation, Supplier<Desk> maker) {
        this.situation = situation;
        this.maker = maker;
    }

    public static void main(String[] args) {
        Desk.sentence("A call that is refused changes nothing");
        for (RefusedTest one : situations()) {
            one.refusedAlways();
            one.refusedBySituation();
            one.questions();
        }
        Desk.end();
    }

    private static List<RefusedTest> situations() {
        List<RefusedTest> all = new ArrayList<>();
        all.add(new RefusedTest("new", Desk::new));
        all.add(new RefusedTest("line begun", () -> typed(new Desk(), "NOO")));
        all.add(new RefusedTest("line full", () -> typed(new Desk().openText("", "r@h"), "a".repeat(72))));
        all.add(new RefusedTest("line almost full", () -> typed(new Desk().openText("", "r@h"), "a".repeat(71))));
        all.add(new RefusedTest("greeted", () -> said("HELO h")));
        all.add(new RefusedTest("transaction", () -> said("HELO h", "MAIL FROM:<s@h>")));
        all.add(new RefusedTest("recipients", () -> typed(said("HELO h", "MAIL FROM:<s@h>", "RCPT TO:<a@b>"), "RCPT")));
        all.add(new RefusedTest("text", () -> typed(new Desk().openText("s@h", "a@b", "c@d"), "x: begun")));
        all.add(new RefusedTest("letters", RefusedTest::lettersOfAllKinds));
        all.add(new RefusedTest("none due", RefusedTest::noneDue));
        all.add(new RefusedTest("full", () -> new Desk().send("s@h", "a@h", "x").fill(5)));
        all.add(new RefusedTest("order of 0", () -> ordered(0)));
        all.add(new RefusedTest("order of 3", () -> ordered(3)));
        all.add(new RefusedTest("down at a letter", () -> downAtSpooling(0)));
        all.add(new RefusedTest("down at a seal", () -> downAtSpooling(1)));
        all.add(new RefusedTest("down at a recipient", () -> downAtReturning(2)));
        all.add(new RefusedTest("down at a return", () -> downAtReturning(1)));
        all.add(new RefusedTest("up again", RefusedTest::upAgain));
        return all;
    }

    private static Desk typed(Desk desk, String begun) {
        Desk.due("typing", desk.typeAll(begun), true);
        return desk;
    }

    private static Desk said(String... lines) {
        Desk desk = new Desk();
        desk.hearAll(250, lines);
        return desk;
    }

    private static Desk lettersOfAllKinds() {
        Desk desk = new Desk().openText("s@h", "a@h", "b@h", "c@h", "d@h");
        desk.hearAll(0, "content-type:multipart/boundary=b", "", "--b", "--b--");
        desk.sealed().send("", "e@h", "broken");
        desk.post.pass(3);
        desk.post.reply(250);
        desk.post.reply(450);
        desk.post.reply(550);
        return desk;
    }

    private static Desk noneDue() {
        Desk desk = new Desk().send("s@h", "a@h", "a:b");
        desk.post.reply(450);
        desk.post.pass(3);
        return desk;
    }

    private static Desk ordered(int n) {
        Desk desk = new Desk().send("s@h", "a@h", "x").fill(1);
        Desk.due("breakAfter(" + n + ")", desk.post.breakAfter(n), true);
        return desk;
    }

    private static Desk downAtSpooling(int writes) {
        Desk desk = new Desk().send("s@h", "a@h", "x").openText("t@h", "b@h", "c@h");
        desk.post.breakAfter(writes);
        desk.hear(".", 0);
        return desk;
    }

    private static Desk downAtReturning(int writes) {
        Desk desk = new Desk().send("s@h", "a@h", "x").openText("t@h", "b@h");
        typed(desk, "begun");
        desk.post.breakAfter(writes);
        Desk.due("reply(550)", desk.post.reply(550), 0);
        return desk;
    }

    private static Desk upAgain() {
        Desk desk = downAtSpooling(1);
        desk.post.pass(7);
        Desk.due("restart()", desk.post.restart(), 1);
        return desk;
    }

    private void refused(String call, long want, ToLongFunction<CountedPost> made) {
        Desk touched = maker.get();
        Desk.due(situation + ": " + call, made.applyAsLong(touched.post), want);
        Desk.due(situation + ": all behind " + call, everything(touched), everything(maker.get()));
    }

    private void refusedAlways() {
        long[] rows = {31, 127, 255, 10, -1L, Desk.packed("NOOP") << 8 | 31, 0x1FL << 56 | Desk.packed("aaaaaaa"), 'P' | 127 << 8};
        for (long row : rows) {
            refused("type(" + row + ")", 0, post -> post.type(row) ? 1 : 0);
        }
        int[] orders = {-1, 21, LEAST, MOST};
        for (int n : orders) {
            refused("breakAfter(" + n + ")", 0, post -> post.breakAfter(n) ? 1 : 0);
        }
        int[] passes = {-1, 1001, LEAST, MOST};
        for (int n : passes) {
            refused("pass(" + n + ")", -1, post -> post.pass(n));
        }
        int[] codes = {199, 300, 399, 600, 0, -1, LEAST, MOST};
        for (int code : codes) {
            refused("reply(" + code + ")", -1, post -> post.reply(code));
        }
    }

    private void refusedBySituation() {
        Desk looked = maker.get();
        boolean isDown = looked.post.state() == 0;
        if (isDown) {
            refused("enter()", -1, CountedPost::enter);
            for (int n = 0; n <= 20; n += 5) {
                int order = n;
                refused("breakAfter(" + n + ")", 0, post -> post.breakAfter(order) ? 1 : 0);
            }
        } else {
            refused("restart()", -1, CountedPost::restart);
        }
        if (looked.post.next() == -1) {
            int[] codes = {200, 299, 400, 499, 500, 599};
            for (int code : codes) {
                refused("reply(" + code + ")", -1, post -> post.reply(code));
            }
        }
        String[] rows = {"", "x", "xy", "12345678"};
        for (String row : rows) {
            if (!maker.get().post.type(Desk.packed(row))) {
                refused("type of '" + row + "'", 0, post -> post.type(Desk.packed(row)) ? 1 : 0);
            }
        }
    }

    /** Questions are no refused calls, but nothing says that they change anything. */
    private void questions() {
        String untouched = everything(maker.get());
        int[] places = {LEAST, -1, 0, 1, 2, 6, MOST};
        for (int m : places) {
            Desk asked = maker.get();
            askOf(asked.post, m, places);
            Desk.due(situation + ": all behind questions of " + m, everything(asked), untouched);
        }
    }

    private static void askOf(CountedPost post, int m, int[] places) {
        post.state();
        post.letters();
        post.next();
        post.letter(m);
        post.parts(m);
        for (int r : places) {
            post.text(m, r);
            post.path(m, r, 0);
            post.recipient(m, r);
            post.due(m, r);
            post.part(m, r, 1);
        }
    }

    /** Uses the object up: what it tells, then its line, its session, its order, and what is left of its letters. */
    private static String everything(Desk desk) {
        StringBuilder all = new StringBuilder();
        look(desk, all);
        all.append(" restart ").append(desk.post.restart());
        all.append(" enter ").append(desk.post.enter());
        all.append(" state ").append(desk.post.state());
        all.append(" rcpt ").append(desk.say("RCPT TO:<q@q>"));
        all.append(" data ").append(desk.say("DATA"));
        all.append(" end ").append(desk.say("."));
        String numbers = desk.numbers();
        int last = numbers.isEmpty() ? 0 : Integer.parseInt(numbers.substring(numbers.lastIndexOf(' ') + 1));
        all.append(" text ").append(desk.text(last)).append(" sender ").append(desk.path(last, -1));
        for (int r = 0; r < 4; r++) {
            all.append(" to ").append(desk.path(last, r));
        }
        for (int i = 0; i < 3; i++) {
            all.append(" reply ").append(desk.post.reply(450)).append(" state ").append(desk.post.state());
        }
        desk.post.pass(5);
        look(desk, all);
        useUpAnOrder(desk, all);
        return all.toString();
    }

    /** More writes than the greatest order, and than one beyond it. */
    private static void useUpAnOrder(Desk desk, StringBuilder all) {
        for (int i = 0; i < 8; i++) {
            all.append(" reply ").append(desk.post.reply(250));
            all.append(" helo ").append(desk.say("HELO h")).append(" mail ").append(desk.say("MAIL FROM:<>"));
            all.append(" rcpt ").append(desk.say("RCPT TO:<q@q>")).append(" data ").append(desk.say("DATA"));
            all.append(" end ").append(desk.say(".")).append(" state ").append(desk.post.state());
        }
    }

    private static void look(Desk desk, StringBuilder all) {
        all.append(" state ").append(desk.post.state()).append(" time ").append(desk.post.pass(0));
        all.append(" next ").append(desk.post.next()).append(" letters ").append(desk.post.letters());
        String numbers = desk.numbers();
        all.append(" numbers ").append(numbers);
        for (String number : numbers.isEmpty() ? new String[0] : numbers.split(" ")) {
            int m = Integer.parseInt(number);
            all.append(" parts ").append(desk.post.parts(m)).append('/').append(desk.post.part(m, 0, 3));
            all.append(" text ").append(desk.post.text(m, 0)).append(" sender ").append(desk.post.path(m, -1, 0));
            for (int r = 0; r < 4; r++) {
                all.append(" to ").append(desk.post.path(m, r, 0)).append(desk.post.recipient(m, r)).append('/').append(desk.post.due(m, r));
            }
        }
    }
}
