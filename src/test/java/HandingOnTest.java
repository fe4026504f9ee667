/** Promises 6, 7 and 8: pass, next and reply. */
public final class HandingOnTest {
    public static void main(String[] args) {
        passing();
        codes();
        order();
        tries();
        returns();
        returnsWithoutRoom();
        breakdowns();
        Desk.end();
    }

    private static void passing() {
        Desk.promise("promise 6");
        SpooledPost post = new SpooledPost();
        Desk.due("pass(-1)", post.pass(-1), -1);
        Desk.due("pass(1001)", post.pass(1001), -1);
        Desk.due("pass(MIN)", post.pass(Integer.MIN_VALUE), -1);
        Desk.due("pass(1000)", post.pass(1000), 1000);
        Desk.due("pass(0)", post.pass(0), 1000);
        Desk.due("pass(1)", post.pass(1), 1001);
    }

    private static void codes() {
        Desk.promise("promise 8, codes");
        Desk desk = new Desk();
        Desk.due("reply(250) without a letter", desk.post.reply(250), -1);
        desk.send("s@h", "r@h", "x");
        int[] refused = {199, 300, 399, 600, 0, -1, -250, Integer.MIN_VALUE, Integer.MAX_VALUE};
        for (int code : refused) {
            Desk.due("reply(" + code + ")", desk.post.reply(code), -1);
        }
        desk.post.breakAfter(0);
        Desk.due("reply(300) writes nothing", desk.post.reply(300), -1);
        Desk.due("state()", desk.post.state(), 2);
        Desk.due("reply(200) breaks", desk.post.reply(200), 0);
        Desk.due("reply(200) when down", desk.post.reply(200), -1);
        int[] taken = {200, 299, 400, 499, 500, 599};
        int[] answers = {1, 1, 0, 0, 2, 2};
        for (int i = 0; i < taken.length; i++) {
            Desk fresh = new Desk().send("", "r@h", "x");
            Desk.due("reply(" + taken[i] + ")", fresh.post.reply(taken[i]), answers[i]);
            Desk.due("letters()", fresh.post.letters(), answers[i] == 0 ? 1 : 0);
        }
    }

    private static void order() {
        Desk.promise("promise 7");
        Desk desk = new Desk();
        Desk.due("next()", desk.post.next(), -1);
        desk.post.pass(3);
        desk.openText("", "a@h", "b@h").hear(".", 250);
        desk.send("", "c@h", "x");
        Desk.due("next() of equals", desk.post.next(), 0);
        desk.post.reply(450);
        Desk.due("the first in it", desk.post.recipient(0, 0), 1);
        Desk.due("next() is its second", desk.post.next(), 0);
        desk.post.reply(450);
        Desk.due("next() is of the other letter", desk.post.next(), 1);
        desk.post.pass(1);
        desk.post.reply(450);
        Desk.due("next() when none is due", desk.post.next(), -1);
        Desk.due("reply(250) when none is due", desk.post.reply(250), -1);
        desk.post.pass(2);
        Desk.due("next() one before it is due", desk.post.next(), -1);
        desk.send("", "d@h", "x");
        Desk.due("next() is the new one", desk.post.next(), 2);
        desk.post.pass(20);
        Desk.due("next() is the least due, not the least number", desk.post.next(), 2);
        desk.post.reply(250);
        Desk.due("next() of letter 0", desk.post.next(), 0);
        desk.post.reply(250);
        Desk.due("first of two equals in one letter", desk.post.recipient(0, 0), 10);
        Desk.due("next() of letter 0 again", desk.post.next(), 0);
        desk.post.reply(250);
        Desk.due("next() of letter 1", desk.post.next(), 1);
        desk.post.breakAfter(0);
        desk.post.reply(250);
        Desk.due("next() when down", desk.post.next(), -1);
        desk.post.restart();
        Desk.due("next() after restart", desk.post.next(), 1);
        leastDueWithinOneLetter();
    }

    private static void leastDueWithinOneLetter() {
        Desk desk = new Desk();
        desk.openText("", "a@h", "b@h").hear(".", 250);
        desk.post.reply(450);
        desk.post.pass(100);
        desk.post.reply(250);
        Desk.due("the second was due before", desk.post.recipient(0, 1), 10);
        Desk.due("the first waits", desk.post.recipient(0, 0), 1);
    }

    private static void tries() {
        Desk.promise("promise 8, tries");
        Desk desk = new Desk().send("", "r@h", "x");
        int[] waits = {4, 16, 64};
        int now = 0;
        for (int t = 1; t <= 3; t++) {
            Desk.due("reply(450)", desk.post.reply(450), 0);
            Desk.due("tries", desk.post.recipient(0, 0), t);
            Desk.due("due", desk.post.due(0, 0), now + waits[t - 1]);
            now = desk.post.pass(waits[t - 1] - 1);
            Desk.due("next() too early", desk.post.next(), -1);
            now = desk.post.pass(1);
            Desk.due("next()", desk.post.next(), 0);
        }
        Desk.due("reply(450) with 3 tries", desk.post.reply(450), 2);
        Desk.due("letters()", desk.post.letters(), 0);
    }

    private static void returns() {
        Desk.promise("promise 8, returns");
        Desk desk = new Desk();
        desk.openText("Sender.x@host", "a@h", "Bad-one@h").hear(".", 250);
        desk.post.reply(450);
        desk.post.pass(2);
        Desk.due("reply(550)", desk.post.reply(550), 2);
        Desk.due("numbers", desk.numbers(), "0 1");
        Desk.due("returned", desk.post.recipient(0, 1), 20);
        Desk.due("text", desk.text(1), "\nReturned: Bad-one@h\n");
        Desk.due("no sender", desk.path(1, -1), "");
        Desk.due("to the sender", desk.path(1, 0), "Sender.x@host");
        Desk.due("one recipient", desk.post.recipient(1, 1), -1);
        Desk.due("tries", desk.post.recipient(1, 0), 0);
        Desk.due("due", desk.post.due(1, 0), 2);
        Desk.due("parts", desk.parts(1), "0/0/0/2");
        Desk.due("a return is not returned", desk.post.reply(550), 2);
        Desk.due("numbers", desk.numbers(), "0");
        desk.post.pass(1000);
        desk.post.reply(450);
        desk.post.pass(1000);
        desk.post.reply(450);
        desk.post.pass(1000);
        Desk.due("reply(400) with 3 tries", desk.post.reply(400), 2);
        Desk.due("numbers", desk.numbers(), "2");
        Desk.due("text", desk.text(2), "\nReturned: a@h\n");
        Desk.due("due", desk.post.due(2, 0), 3002);
    }

    private static void returnsWithoutRoom() {
        Desk.promise("promise 8, a full spool");
        Desk desk = new Desk();
        for (int i = 0; i < 6; i++) {
            desk.send("s@h", "r@h", "x");
        }
        desk.post.breakAfter(1);
        Desk.due("one write alone", desk.post.reply(550), 2);
        Desk.due("numbers", desk.numbers(), "1 2 3 4 5");
        desk.post.breakAfter(3);
        Desk.due("three writes", desk.post.reply(550), 2);
        Desk.due("numbers", desk.numbers(), "2 3 4 5 6");
        Desk.due("state()", desk.post.state(), 2);
        Desk.due("no sender, in a used place", desk.path(6, -1), "");
        Desk.due("text, in a used place", desk.text(6), "\nReturned: r@h\n");
    }

    private static void breakdowns() {
        Desk.promise("promises 4 and 8");
        for (int writes = 0; writes < 3; writes++) {
            Desk desk = new Desk().send("s@h", "r@h", "x");
            desk.post.breakAfter(writes);
            Desk.due("reply(550)", desk.post.reply(550), 0);
            Desk.due("state()", desk.post.state(), 0);
            Desk.due("numbers when down", desk.numbers(), writes == 2 ? "0 1" : "0");
            Desk.due("it waits", desk.post.recipient(0, 0), 0);
            Desk.due("restart()", desk.post.restart(), writes == 2 ? 2 : 1);
            Desk.due("reply(550) again", desk.post.reply(550), 2);
            Desk.due("numbers", desk.numbers(), writes == 2 ? "1 2" : "2");
        }
        Desk desk = new Desk().send("s@h", "r@h", "x");
        desk.post.breakAfter(0);
        Desk.due("reply(450)", desk.post.reply(450), 0);
        Desk.due("state()", desk.post.state(), 0);
        Desk.due("tries", desk.post.recipient(0, 0), 0);
        Desk.due("due", desk.post.due(0, 0), 0);
        desk.post.restart();
        desk.post.breakAfter(1);
        Desk.due("reply(450)", desk.post.reply(450), 0);
        Desk.due("tries", desk.post.recipient(0, 0), 1);
        Desk.due("state()", desk.post.state(), 1);
    }
}
