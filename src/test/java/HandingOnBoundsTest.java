/** The bounds of time, of the next recipient and of its replies: one test for each sentence that names one. */
public final class HandingOnBoundsTest {
    private static final int LEAST = Integer.MIN_VALUE;
    private static final int MOST = Integer.MAX_VALUE;

    public static void main(String[] args) {
        passing();
        passingWhileDown();
        dueWhenSpooled();
        dueNotAfterNow();
        leastDueTime();
        leastNumber();
        firstInTheLetter();
        onlyThoseWithASeal();
        nobodyIsNext();
        codesRefused();
        codesTaken();
        fewerThanThreeTries();
        waitsGrow();
        triesOfEachRecipient();
        letterWithoutASender();
        roomForAReturn();
        textOfAReturn();
        returnOfAReturn();
        eachChangeIsOneWrite();
        answersOfReply();
        Desk.end();
    }

    private static void passing() {
        Desk.sentence("Answers the time; NONE, refused, when n is not 0 .. 1000");
        Desk desk = new Desk();
        int[] refused = {-1, 1001, 1002, -1000, LEAST, MOST};
        for (int n : refused) {
            Desk.due("pass(" + n + ")", desk.post.pass(n), -1);
        }
        Desk.due("pass(0)", desk.post.pass(0), 0);
        Desk.due("pass(1000)", desk.post.pass(1000), 1000);
        Desk.due("pass(999)", desk.post.pass(999), 1999);
        Desk.due("pass(1)", desk.post.pass(1), 2000);
        for (int n : refused) {
            Desk.due("pass(" + n + ")", desk.post.pass(n), -1);
        }
        Desk.due("pass(0)", desk.post.pass(0), 2000);
    }

    private static void passingWhileDown() {
        Desk.sentence("(Also while the server is down.)");
        Desk desk = new Desk().fill(1);
        desk.post.breakAfter(0);
        desk.post.reply(250);
        Desk.due("pass(1000)", desk.post.pass(1000), 1000);
        Desk.due("pass(1001)", desk.post.pass(1001), -1);
        Desk.due("pass(-1)", desk.post.pass(-1), -1);
        Desk.due("pass(0)", desk.post.pass(0), 1000);
        desk.post.restart();
        Desk.due("pass(1)", desk.post.pass(1), 1001);
    }

    private static void dueWhenSpooled() {
        Desk.sentence("a waiting one has TRIES (0 at first) and a time when it is DUE (when it was spooled, at first)");
        Desk desk = new Desk();
        desk.hearAll(250, "HELO h", "MAIL FROM:<s@h>", "RCPT TO:<a@h>");
        desk.post.pass(10);
        desk.hear("DATA", 354);
        desk.post.pass(10);
        desk.sealed();
        desk.post.pass(10);
        Desk.due("recipient(0, 0)", desk.post.recipient(0, 0), 0);
        Desk.due("due(0, 0)", desk.post.due(0, 0), 20);
        desk.post.reply(550);
        Desk.due("recipient(1, 0) of a return", desk.post.recipient(1, 0), 0);
        Desk.due("due(1, 0) of a return", desk.post.due(1, 0), 30);
    }

    private static void dueNotAfterNow() {
        Desk.sentence("of the waiting ones of letters with a seal whose due time is not after now");
        Desk desk = new Desk().fill(1);
        Desk.due("next() at once", desk.post.next(), 0);
        desk.post.reply(450);
        int[] nexts = {-1, -1, -1, -1, 0, 0};
        for (int i = 0; i < nexts.length; i++) {
            Desk.due("next() after " + i, desk.post.next(), nexts[i]);
            if (nexts[i] == -1) {
                Desk.due("reply(250) after " + i, desk.post.reply(250), -1);
            }
            desk.post.pass(1);
        }
        Desk.due("reply(250)", desk.post.reply(250), 1);
    }

    private static void leastDueTime() {
        Desk.sentence("that with the least due time");
        Desk desk = new Desk().fill(2);
        desk.post.reply(450);
        desk.post.pass(3);
        desk.post.reply(450);
        desk.fill(1);
        Desk.due("due of 0", desk.post.due(0, 0), 4);
        Desk.due("due of 1", desk.post.due(1, 0), 7);
        Desk.due("due of 2", desk.post.due(2, 0), 3);
        desk.post.pass(100);
        int[] order = {2, 0, 1};
        for (int number : order) {
            Desk.due("next()", desk.post.next(), number);
            desk.post.reply(250);
        }
        leastDueTimeInOneLetter();
    }

    private static void leastDueTimeInOneLetter() {
        Desk desk = new Desk().openText("", "a@h", "b@h", "c@h").sealed();
        desk.post.reply(450);
        desk.post.pass(1);
        desk.post.reply(450);
        desk.post.pass(100);
        int[] order = {2, 0, 1};
        for (int r : order) {
            Desk.due("it waits", desk.post.recipient(0, r) < 10, true);
            desk.post.reply(250);
            Desk.due("recipient(0, " + r + ")", desk.post.recipient(0, r), r == 1 ? -1 : 10);
        }
    }

    private static void leastNumber() {
        Desk.sentence("of these that of the letter with the least number");
        Desk desk = new Desk().fill(6);
        for (int number = 0; number < 6; number++) {
            Desk.due("next()", desk.post.next(), number);
            desk.post.reply(450);
        }
        desk.post.pass(4);
        for (int number = 0; number < 6; number++) {
            Desk.due("next()", desk.post.next(), number);
            desk.post.reply(250);
        }
        dueAtTheSameTimeByDifferentWays();
    }

    private static void dueAtTheSameTimeByDifferentWays() {
        Desk desk = new Desk().fill(1);
        desk.post.reply(450);
        desk.post.pass(4);
        desk.fill(1);
        Desk.due("due of 0", desk.post.due(0, 0), 4);
        Desk.due("due of 1", desk.post.due(1, 0), 4);
        Desk.due("next()", desk.post.next(), 0);
        desk.post.reply(250);
        Desk.due("next()", desk.post.next(), 1);
    }

    private static void firstInTheLetter() {
        Desk.sentence("of these the first in it");
        Desk desk = new Desk().openText("", "a@h", "b@h", "c@h", "d@h").sealed();
        for (int r = 0; r < 4; r++) {
            desk.post.reply(450);
            Desk.due("recipient(0, " + r + ")", desk.post.recipient(0, r), 1);
            Desk.due("recipient(0, " + (r + 1) + ")", desk.post.recipient(0, r + 1), r == 3 ? -1 : 0);
        }
        desk.post.pass(4);
        for (int r = 0; r < 3; r++) {
            desk.post.reply(550);
            Desk.due("recipient(0, " + r + ")", desk.post.recipient(0, r), 20);
            Desk.due("recipient(0, " + (r + 1) + ")", desk.post.recipient(0, r + 1), 1);
        }
    }

    private static void onlyThoseWithASeal() {
        Desk.sentence("of letters with a seal");
        Desk desk = new Desk().openText("", "r@h");
        desk.post.breakAfter(1);
        desk.hear(".", 0);
        Desk.due("next() when down", desk.post.next(), -1);
        desk.post.restart();
        Desk.due("next() when up again", desk.post.next(), -1);
        Desk.due("reply(250)", desk.post.reply(250), -1);
    }

    private static void nobodyIsNext() {
        Desk.sentence("NONE when there is none, or the server is down");
        Desk desk = new Desk();
        Desk.due("next() of an empty spool", desk.post.next(), -1);
        Desk.due("reply(250)", desk.post.reply(250), -1);
        desk.fill(1);
        Desk.due("next()", desk.post.next(), 0);
        desk.post.breakAfter(0);
        Desk.due("reply(250)", desk.post.reply(250), 0);
        Desk.due("next() when down", desk.post.next(), -1);
        Desk.due("reply(250) when down", desk.post.reply(250), -1);
        desk.post.restart();
        Desk.due("next() when up again", desk.post.next(), 0);
        Desk.due("reply(250)", desk.post.reply(250), 1);
        Desk.due("next() behind the last one", desk.post.next(), -1);
    }

    private static void codesRefused() {
        Desk.sentence("NONE, refused, when there is no next recipient, the server is down, or code is not 200 .. 299, 400 .. 499 or 500 .. 599");
        Desk desk = new Desk().send("s@h", "r@h", "x");
        desk.post.breakAfter(0);
        int[] refused = {LEAST, -599, -200, -1, 0, 1, 100, 199, 300, 301, 350, 399, 600, 601, 700, 1000, MOST, MOST - 200};
        for (int code : refused) {
            Desk.due("reply(" + code + ")", desk.post.reply(code), -1);
        }
        Desk.due("state()", desk.post.state(), 2);
        Desk.due("recipient(0, 0)", desk.post.recipient(0, 0), 0);
        Desk.due("numbers", desk.numbers(), "0");
    }

    private static void codesTaken() {
        Desk.sentence("A reply for it: 200 to 299: it becomes delivered");
        int[] delivering = {200, 201, 250, 298, 299};
        for (int code : delivering) {
            Desk desk = new Desk().openText("s@h", "a@h", "b@h").sealed();
            Desk.due("reply(" + code + ")", desk.post.reply(code), 1);
            Desk.due("recipient(0, 0)", desk.post.recipient(0, 0), 10);
            Desk.due("numbers", desk.numbers(), "0");
        }
        Desk.sentence("400 to 499, and it has fewer than 3 tries");
        int[] delaying = {400, 401, 450, 498, 499};
        for (int code : delaying) {
            Desk desk = new Desk().openText("s@h", "a@h", "b@h").sealed();
            Desk.due("reply(" + code + ")", desk.post.reply(code), 0);
            Desk.due("recipient(0, 0)", desk.post.recipient(0, 0), 1);
            Desk.due("numbers", desk.numbers(), "0");
        }
        Desk.sentence("500 to 599, or 400 to 499 otherwise: it is returned");
        int[] returning = {500, 501, 550, 598, 599};
        for (int code : returning) {
            Desk desk = new Desk().openText("s@h", "a@h", "b@h").sealed();
            Desk.due("reply(" + code + ")", desk.post.reply(code), 2);
            Desk.due("recipient(0, 0)", desk.post.recipient(0, 0), 20);
            Desk.due("numbers", desk.numbers(), "0 1");
        }
    }

    /** The one recipient has as many tries as told, and is due. */
    private static Desk tried(String sender, int tries) {
        Desk desk = new Desk().openText(sender, "a@h", "b@h").sealed();
        for (int t = 1; t <= tries; t++) {
            Desk.due("reply(450)", desk.post.reply(450), 0);
            if (t == 1) {
                Desk.due("reply(250) for the other", desk.post.reply(250), 1);
            }
            desk.post.pass(1 << 2 * t);
        }
        Desk.due("recipient(0, 0)", desk.post.recipient(0, 0), tries);
        return desk;
    }

    private static void fewerThanThreeTries() {
        Desk.sentence("400 to 499, and it has fewer than 3 tries: its tries grow by 1 (to t)");
        for (int tries = 0; tries < 3; tries++) {
            Desk desk = tried("s@h", tries);
            Desk.due("reply(499)", desk.post.reply(499), 0);
            Desk.due("recipient(0, 0)", desk.post.recipient(0, 0), tries + 1);
            Desk.due("numbers", desk.numbers(), "0");
        }
        Desk.sentence("or 400 to 499 otherwise: it is returned");
        int[] codes = {400, 499};
        for (int code : codes) {
            Desk desk = tried("s@h", 3);
            Desk.due("reply(" + code + ") with 3 tries", desk.post.reply(code), 2);
            Desk.due("numbers", desk.numbers(), "1");
        }
        Desk.due("reply(250) with 3 tries", tried("s@h", 3).post.reply(250), 1);
        Desk.due("reply(550) with 1 try", tried("s@h", 1).post.reply(550), 2);
    }

    private static void waitsGrow() {
        Desk.sentence("it is due 4 to the power of t after now");
        int[] waits = {4, 16, 64};
        for (int late = 0; late < 3; late++) {
            Desk desk = new Desk().fill(1);
            for (int t = 0; t < 3; t++) {
                int now = desk.post.pass(late);
                desk.post.reply(450);
                Desk.due("due(0, 0)", desk.post.due(0, 0), now + waits[t]);
                desk.post.pass(waits[t] - 1);
                Desk.due("next() one before", desk.post.next(), -1);
                desk.post.pass(1);
                Desk.due("next()", desk.post.next(), 0);
            }
        }
    }

    private static void triesOfEachRecipient() {
        Desk.sentence("a waiting one has TRIES (0 at first)");
        Desk desk = new Desk().openText("", "a@h", "b@h").sealed();
        desk.post.reply(450);
        desk.post.pass(1);
        desk.post.reply(450);
        desk.post.pass(4);
        desk.post.reply(450);
        Desk.due("recipient(0, 0)", desk.post.recipient(0, 0), 2);
        Desk.due("due(0, 0)", desk.post.due(0, 0), 21);
        Desk.due("recipient(0, 1)", desk.post.recipient(0, 1), 1);
        Desk.due("due(0, 1)", desk.post.due(0, 1), 5);
    }

    private static void letterWithoutASender() {
        Desk.sentence("if the letter has a sender");
        Desk desk = new Desk().openText("", "a@h", "b@h").sealed();
        desk.post.breakAfter(1);
        Desk.due("reply(550)", desk.post.reply(550), 2);
        Desk.due("state()", desk.post.state(), 2);
        Desk.due("numbers", desk.numbers(), "0");
        desk.post.breakAfter(3);
        desk.fill(1);
        Desk.due("no number was given", desk.numbers(), "0 1");
    }

    private static void roomForAReturn() {
        Desk.sentence("and the spool has fewer than 6 letters");
        for (int more = 0; more <= 5; more++) {
            Desk desk = new Desk().openText("s@h", "a@h", "b@h").sealed().fill(more);
            desk.post.breakAfter(more < 5 ? 3 : 1);
            Desk.due("reply(550) with " + (more + 1) + " letters", desk.post.reply(550), 2);
            Desk.due("recipient(0, 0)", desk.post.recipient(0, 0), 20);
            Desk.due("letters()", desk.post.letters(), more < 5 ? more + 2 : 6);
            Desk.due("path of the return", desk.path(more + 1, 0), more < 5 ? "s@h" : "");
            Desk.due("all writes are used", desk.post.reply(250), 0);
            Desk.due("state()", desk.post.state(), 0);
        }
    }

    private static void textOfAReturn() {
        Desk.sentence("a letter is spooled with no sender, the sender as recipient, and two lines of text, the first one empty, the second one \"Returned: \" and the path of the recipient");
        String longest = "l234567@d2345678901234567890123456789012";
        String[] senders = {longest, "a@b", "S.x@H"};
        String[] recipients = {"a@b", longest, "R-y@K"};
        for (int i = 0; i < senders.length; i++) {
            Desk desk = new Desk().send(senders[i], recipients[i], "x");
            Desk.due("reply(500)", desk.post.reply(500), 2);
            Desk.due("numbers", desk.numbers(), "1");
            Desk.due("text", desk.text(1), "\nReturned: " + recipients[i] + "\n");
            Desk.due("sender", desk.path(1, -1), "");
            Desk.due("recipient", desk.path(1, 0), senders[i]);
            Desk.due("recipient(1, 1)", desk.post.recipient(1, 1), -1);
            Desk.due("parts", desk.parts(1), "0/0/0/2");
        }
    }

    private static void returnOfAReturn() {
        Desk.sentence("a letter is spooled with no sender");
        Desk desk = new Desk().send("s@h", "a@h", "x");
        desk.post.reply(550);
        Desk.due("next()", desk.post.next(), 1);
        Desk.due("reply(550)", desk.post.reply(550), 2);
        Desk.due("letters()", desk.post.letters(), 0);
        Desk.due("next()", desk.post.next(), -1);
    }

    private static void eachChangeIsOneWrite() {
        Desk.sentence("then it becomes returned. Each of these changes is one write");
        String[] standing = {"0", "0", "0 1", "1"};
        for (int writes = 0; writes < 4; writes++) {
            Desk desk = new Desk().send("s@h", "a@h", "x");
            desk.post.breakAfter(writes);
            Desk.due("reply(550)", desk.post.reply(550), writes < 3 ? 0 : 2);
            Desk.due("state()", desk.post.state(), writes < 3 ? 0 : 2);
            Desk.due("numbers", desk.numbers(), standing[writes]);
            Desk.due("recipient(0, 0)", desk.post.recipient(0, 0), writes < 3 ? 0 : -1);
            Desk.due("restart()", desk.post.restart(), writes == 3 ? -1 : writes == 2 ? 2 : 1);
            Desk.due("numbers", desk.numbers(), standing[writes]);
            desk.post.breakAfter(20);
            desk.fill(1);
            Desk.due("one number was given", desk.post.letter(desk.post.letters() - 1), 2);
        }
    }

    private static void answersOfReply() {
        Desk.sentence("Answers what it is then: 1 delivered, 2 returned, 0 it waits (also when the breakdown came before that was written)");
        int[] codes = {250, 450, 550};
        for (int code : codes) {
            Desk desk = new Desk().send("s@h", "a@h", "x");
            desk.post.breakAfter(0);
            Desk.due("reply(" + code + ")", desk.post.reply(code), 0);
            Desk.due("state()", desk.post.state(), 0);
            Desk.due("recipient(0, 0)", desk.post.recipient(0, 0), 0);
            Desk.due("due(0, 0)", desk.post.due(0, 0), 0);
            desk.post.restart();
            Desk.due("next()", desk.post.next(), 0);
            Desk.due("reply(" + code + ")", desk.post.reply(code), code == 250 ? 1 : code == 450 ? 0 : 2);
        }
    }
}
