/** The bounds of the spool, its writes, breakdowns and questions: one test for each sentence that names one. */
public final class SpoolBoundsTest {
    private static final int LEAST = Integer.MIN_VALUE;
    private static final int MOST = Integer.MAX_VALUE;
    /** The numbers of no letter with a seal in goneStandingUnsealed(). */
    private static final int[] NO_LETTERS = {-1, 0, 2, 3, 6, LEAST, MOST};

    public static void main(String[] args) {
        newObject();
        numbersInOrder();
        numbersOfLettersThatFailed();
        noNumberWithoutSpooling();
        lettersWithoutAWaitingRecipient();
        lettersThatAreGoneLeaveNothing();
        twoWritesToSpool();
        oneWriteToChangeARecipient();
        commandsWriteNothing();
        nothingMoreButWhatWasWritten();
        afterSoManyMoreWrites();
        breakdownOrders();
        inPlaceOfOneThatWasOrdered();
        noSessionWhileDown();
        startingAgain();
        startingAgainTakesOrderAndLineAway();
        restartAnswers();
        sealedAreCounted();
        lettersByPlace();
        textPlaces();
        pathPlaces();
        recipientPlaces();
        duePlaces();
        fullSpool();
        Desk.end();
    }

    private static void newObject() {
        Desk.sentence("The server is up, the spool empty, no line is begun, it is the time 0, no breakdown is ordered");
        Desk desk = new Desk();
        Desk.due("state()", desk.post.state(), 1);
        Desk.due("restart()", desk.post.restart(), -1);
        Desk.due("letters()", desk.post.letters(), 0);
        Desk.due("letter(0)", desk.post.letter(0), -1);
        Desk.due("next()", desk.post.next(), -1);
        Desk.due("enter()", desk.post.enter(), 500);
        Desk.due("pass(0)", desk.post.pass(0), 0);
        desk.fill(6);
        Desk.due("due(0, 0)", desk.post.due(0, 0), 0);
        for (int i = 0; i < 6; i++) {
            Desk.due("reply(250)", desk.post.reply(250), 1);
        }
        Desk.due("state() behind 18 writes", desk.post.state(), 2);
    }

    private static void numbersInOrder() {
        Desk.sentence("each has a number (0, 1, .. in the order in which they were spooled or failed to be, none given twice)");
        Desk desk = new Desk();
        for (int number = 0; number < 20; number++) {
            desk.fill(1);
            Desk.due("number", desk.numbers(), String.valueOf(number));
            Desk.due("reply(200)", desk.post.reply(200), 1);
        }
        desk = new Desk().fill(3);
        desk.post.reply(250);
        desk.post.reply(250);
        desk.post.reply(250);
        desk.fill(1);
        Desk.due("behind an empty spool", desk.numbers(), "3");
    }

    private static void numbersOfLettersThatFailed() {
        Desk.sentence("in the order in which they were spooled or failed to be, none given twice");
        for (int writes = 0; writes < 2; writes++) {
            Desk desk = new Desk().send("s@h", "a@h", "x");
            desk.openText("", "b@h");
            desk.post.breakAfter(writes);
            desk.hear(".", 0);
            desk.post.restart();
            desk.fill(1);
            Desk.due("a number is left out for a letter", desk.numbers(), "0 2");
            desk.post.breakAfter(writes);
            Desk.due("reply(550)", desk.post.reply(550), 0);
            desk.post.restart();
            desk.fill(1);
            Desk.due("and one for a return", desk.numbers(), "0 2 4");
        }
    }

    private static void noNumberWithoutSpooling() {
        Desk.sentence("The reply is 552 if the text is too long, else 452 if the spool has 6 letters. Otherwise the letter is SPOOLED");
        Desk desk = new Desk().openText("", "r@h");
        for (int i = 0; i < 9; i++) {
            desk.hear("x".repeat(72), 0);
        }
        desk.hear(".", 552);
        desk.openText("s@h", "a@h", "b@h").sealed().fill(4).openText("", "r@h");
        Desk.due("reply(550)", desk.post.reply(550), 2);
        desk.hear(".", 452);
        Desk.due("numbers", desk.numbers(), "0 1 2 3 4 5");
        Desk.due("reply(500) without room for a return", desk.post.reply(500), 2);
        desk.fill(1);
        Desk.due("numbers", desk.numbers(), "1 2 3 4 5 6");
    }

    private static void lettersWithoutAWaitingRecipient() {
        Desk.sentence("A letter none of whose recipients waits is gone");
        Desk desk = new Desk().openText("", "a@h", "b@h", "c@h", "d@h").sealed();
        int[] codes = {250, 550, 200, 599};
        for (int i = 0; i < codes.length; i++) {
            Desk.due("letters()", desk.post.letters(), 1);
            Desk.due("next()", desk.post.next(), 0);
            desk.post.reply(codes[i]);
        }
        Desk.due("letters()", desk.post.letters(), 0);
        Desk.due("recipient(0, 0)", desk.post.recipient(0, 0), -1);
        Desk.due("next()", desk.post.next(), -1);
    }

    private static void lettersThatAreGoneLeaveNothing() {
        Desk.sentence("A letter none of whose recipients waits is gone");
        Desk desk = new Desk();
        for (int i = 0; i < 6; i++) {
            desk.send("long.sender@host", "long.recipient@host", "a long text");
            desk.post.reply(450);
        }
        desk.post.pass(4);
        for (int i = 0; i < 6; i++) {
            Desk.due("reply(250)", desk.post.reply(250), 1);
        }
        for (int m = 6; m < 12; m++) {
            desk.send(m < 9 ? "" : "s@h", "r@h", "x");
            Desk.due("text", desk.text(m), "x\n");
            Desk.due("sender", desk.path(m, -1), m < 9 ? "" : "s@h");
            Desk.due("recipient", desk.path(m, 0), "r@h");
            Desk.due("recipient(" + m + ", 0)", desk.post.recipient(m, 0), 0);
            Desk.due("due(" + m + ", 0)", desk.post.due(m, 0), 4);
        }
    }

    private static void twoWritesToSpool() {
        Desk.sentence("To spool a letter takes two writes: the letter without its SEAL, then the seal");
        for (int writes = 0; writes < 3; writes++) {
            Desk desk = new Desk().openText("s@h", "a@h");
            desk.hear("x", 0);
            desk.post.breakAfter(writes);
            desk.hear(".", writes < 2 ? 0 : 250);
            Desk.due("state()", desk.post.state(), writes < 2 ? 0 : 2);
            Desk.due("letters()", desk.post.letters(), writes < 2 ? 0 : 1);
            Desk.due("restart()", desk.post.restart(), writes < 2 ? 0 : -1);
            Desk.due("letters()", desk.post.letters(), writes < 2 ? 0 : 1);
        }
    }

    private static void oneWriteToChangeARecipient() {
        Desk.sentence("to change a recipient takes one");
        int[] codes = {250, 450, 550};
        int[] answers = {1, 0, 2};
        int[] told = {10, 1, 20};
        for (int i = 0; i < codes.length; i++) {
            for (int writes = 0; writes < 2; writes++) {
                Desk desk = new Desk().openText("", "a@h", "b@h").sealed();
                desk.post.breakAfter(writes);
                Desk.due("reply(" + codes[i] + ")", desk.post.reply(codes[i]), writes == 0 ? 0 : answers[i]);
                Desk.due("state()", desk.post.state(), writes == 0 ? 0 : 2);
                Desk.due("recipient(0, 0)", desk.post.recipient(0, 0), writes == 0 ? 0 : told[i]);
                Desk.due("one more", desk.post.reply(250), writes == 0 ? -1 : 0);
                Desk.due("state()", desk.post.state(), 0);
                Desk.due("recipient(0, 1)", desk.post.recipient(0, 1), 0);
            }
        }
    }

    private static void commandsWriteNothing() {
        Desk.sentence("the next one then does not take place, the call does nothing more");
        Desk desk = new Desk().fill(1);
        desk.post.breakAfter(0);
        desk.hearAll(250, "NOOP", "RSET", "MAIL FROM:<a@b>", "RCPT TO:<a@b>");
        desk.hear("DATA", 354);
        desk.hear("x", 0);
        desk.post.pass(5);
        desk.post.next();
        desk.post.parts(0);
        Desk.due("reply(300)", desk.post.reply(300), -1);
        Desk.due("state()", desk.post.state(), 4);
        desk.hear(".", 0);
        Desk.due("state()", desk.post.state(), 0);
        Desk.due("numbers", desk.numbers(), "0");
    }

    private static void nothingMoreButWhatWasWritten() {
        Desk.sentence("(but for what was written, and a letter's number being given), and the server is DOWN");
        Desk desk = new Desk().send("s@h", "a@h", "x");
        desk.post.breakAfter(2);
        Desk.due("reply(550)", desk.post.reply(550), 0);
        Desk.due("state()", desk.post.state(), 0);
        Desk.due("the return was written", desk.numbers(), "0 1");
        Desk.due("its text", desk.text(1), "\nReturned: a@h\n");
        Desk.due("the recipient waits", desk.post.recipient(0, 0), 0);
        Desk.due("restart()", desk.post.restart(), 2);
        Desk.due("next()", desk.post.next(), 0);
        Desk.due("reply(550)", desk.post.reply(550), 2);
        Desk.due("a second return", desk.numbers(), "1 2");
        desk.openText("s@h", "b@h");
        desk.post.breakAfter(0);
        desk.hear(".", 0);
        Desk.due("restart()", desk.post.restart(), 2);
        desk.fill(1);
        Desk.due("3 was given to the letter that was not written", desk.numbers(), "1 2 4");
    }

    private static void afterSoManyMoreWrites() {
        Desk.sentence("A BREAKDOWN may be ordered to come after so many more writes");
        for (int n = 0; n <= 20; n++) {
            Desk desk = new Desk();
            for (int i = 0; i < 6; i++) {
                desk.openText("", "a@h", "b@h", "c@h", "d@h").sealed();
            }
            Desk.due("breakAfter(" + n + ")", desk.post.breakAfter(n), true);
            for (int i = 0; i < n; i++) {
                Desk.due("write " + i, desk.post.reply(250), 1);
            }
            Desk.due("state()", desk.post.state(), 2);
            Desk.due("the write that does not take place", desk.post.reply(250), 0);
            Desk.due("state()", desk.post.state(), 0);
        }
    }

    private static void breakdownOrders() {
        Desk.sentence("Answers true; false, refused, when n is not 0 .. 20, or the server is down");
        Desk desk = new Desk();
        int[] refused = {-1, -2, 21, 22, 256, LEAST, MOST};
        for (int n : refused) {
            Desk.due("breakAfter(" + n + ")", desk.post.breakAfter(n), false);
        }
        int[] taken = {20, 19, 1, 0};
        for (int n : taken) {
            Desk.due("breakAfter(" + n + ")", desk.post.breakAfter(n), true);
        }
        desk.openText("", "r@h").hear(".", 0);
        Desk.due("breakAfter(0) when down", desk.post.breakAfter(0), false);
        Desk.due("breakAfter(20) when down", desk.post.breakAfter(20), false);
        Desk.due("breakAfter(-1) when down", desk.post.breakAfter(-1), false);
    }

    private static void inPlaceOfOneThatWasOrdered() {
        Desk.sentence("in place of one that was ordered");
        Desk desk = new Desk();
        desk.post.breakAfter(0);
        desk.post.breakAfter(2);
        desk.fill(1);
        desk.post.breakAfter(20);
        desk.post.breakAfter(0);
        Desk.due("reply(250)", desk.post.reply(250), 0);
        Desk.due("state()", desk.post.state(), 0);
    }

    private static void noSessionWhileDown() {
        Desk.sentence("While it is down there is no session");
        Desk desk = new Desk().fill(1).openText("s@h", "r@h");
        desk.hear("x", 0);
        desk.post.breakAfter(0);
        Desk.due("reply(250)", desk.post.reply(250), 0);
        Desk.due("state()", desk.post.state(), 0);
        Desk.due("type('.')", desk.post.type('.'), false);
        Desk.due("enter()", desk.post.enter(), -1);
        Desk.due("next()", desk.post.next(), -1);
        Desk.due("reply(250)", desk.post.reply(250), -1);
        Desk.due("letters()", desk.post.letters(), 1);
        Desk.due("text(0, 0)", desk.post.text(0, 0), 'x');
        Desk.due("recipient(0, 0)", desk.post.recipient(0, 0), 0);
        Desk.due("due(0, 0)", desk.post.due(0, 0), 0);
        Desk.due("pass(3)", desk.post.pass(3), 3);
    }

    private static void startingAgain() {
        Desk.sentence("When it starts again the session is as at first, and letters without a seal are gone");
        Desk desk = new Desk().fill(1).openText("s@h", "r@h");
        desk.post.breakAfter(1);
        desk.hear(".", 0);
        Desk.due("restart()", desk.post.restart(), 1);
        Desk.due("state()", desk.post.state(), 1);
        desk.hearAll(503, "MAIL FROM:<>", "RCPT TO:<a@b>", "DATA");
        Desk.due("numbers", desk.numbers(), "0");
        desk.fill(5);
        Desk.due("there is room for 6", desk.numbers(), "0 2 3 4 5 6");
        desk = new Desk().openText("s@h", "r@h");
        desk.post.breakAfter(1);
        desk.hear(".", 0);
        Desk.due("restart()", desk.post.restart(), 0);
        desk.fill(6);
        Desk.due("there is room for 6 where the first one had no seal", desk.numbers(), "1 2 3 4 5 6");
    }

    private static void startingAgainTakesOrderAndLineAway() {
        Desk.sentence("no breakdown is ordered any more, and the line that is begun is empty");
        Desk desk = new Desk().fill(1);
        desk.typeAll("NOOP");
        desk.post.breakAfter(0);
        desk.post.reply(250);
        Desk.due("restart()", desk.post.restart(), 1);
        Desk.due("enter()", desk.post.enter(), 500);
        desk.fill(5);
        for (int i = 0; i < 6; i++) {
            Desk.due("reply(250)", desk.post.reply(250), 1);
        }
        Desk.due("state()", desk.post.state(), 2);
    }

    private static void restartAnswers() {
        Desk.sentence("Answers how many letters the spool has; NONE, refused, when it is not down");
        for (int count = 0; count <= 6; count++) {
            Desk desk = new Desk().fill(count);
            Desk.due("restart() when up", desk.post.restart(), -1);
            desk.post.breakAfter(count == 6 ? 0 : 1);
            if (count == 6) {
                desk.post.reply(450);
            } else {
                desk.openText("", "r@h").hear(".", 0);
            }
            Desk.due("restart() with " + count, desk.post.restart(), count);
            Desk.due("restart() again", desk.post.restart(), -1);
            Desk.due("letters()", desk.post.letters(), count);
        }
    }

    private static void sealedAreCounted() {
        Desk.sentence("How many letters the spool has, those without a seal not counted");
        Desk desk = new Desk();
        for (int count = 0; count < 6; count++) {
            Desk.due("letters()", desk.post.letters(), count);
            desk.fill(1);
        }
        Desk.due("letters()", desk.post.letters(), 6);
        desk = new Desk().fill(5).openText("", "r@h");
        desk.post.breakAfter(1);
        desk.hear(".", 0);
        Desk.due("letters() with a sixth that has no seal", desk.post.letters(), 5);
    }

    private static void lettersByPlace() {
        Desk.sentence("The number of the k-th letter of the spool (k from 0, by their numbers, those without a seal left out); NONE when there is none");
        Desk desk = new Desk().send("s@h", "r@h", "x").fill(5);
        int[] none = {-1, 6, 7, LEAST, MOST};
        for (int k : none) {
            Desk.due("letter(" + k + ") of 6", desk.post.letter(k), -1);
        }
        Desk.due("letter(0)", desk.post.letter(0), 0);
        Desk.due("letter(5)", desk.post.letter(5), 5);
        desk.post.reply(450);
        desk.post.reply(250);
        desk.post.reply(250);
        Desk.due("numbers", desk.numbers(), "0 3 4 5");
        Desk.due("letter(4) of 4", desk.post.letter(4), -1);
        desk.openText("", "r@h");
        desk.post.breakAfter(1);
        desk.hear(".", 0);
        Desk.due("numbers", desk.numbers(), "0 3 4 5");
        Desk.due("letter(4) without a seal", desk.post.letter(4), -1);
    }

    /** Letter 0 is gone, 1 stands, 2 has no seal, and the server is down. */
    private static Desk goneStandingUnsealed() {
        Desk desk = new Desk().send("", "a@h", "gone").send("s@h", "b@h", "a", "", "b");
        Desk.due("reply(250)", desk.post.reply(250), 1);
        desk.openText("t@h", "c@h").hear("unsealed", 0);
        desk.post.breakAfter(1);
        desk.hear(".", 0);
        return desk;
    }

    private static void textPlaces() {
        Desk.sentence("The character at place i of the text of letter m, the end of a line being the code 10; 0 when there is no such letter with a seal, or place");
        Desk desk = goneStandingUnsealed();
        for (int m : NO_LETTERS) {
            Desk.due("text(" + m + ", 0)", desk.post.text(m, 0), 0);
        }
        char[] written = {'a', 10, 10, 'b', 10};
        for (int i = 0; i < written.length; i++) {
            Desk.due("text(1, " + i + ")", desk.post.text(1, i), written[i]);
        }
        int[] none = {-1, 5, 600, 601, LEAST, MOST};
        for (int i : none) {
            Desk.due("text(1, " + i + ")", desk.post.text(1, i), 0);
        }
        desk.post.restart();
        desk.openText("", "r@h").sealed();
        Desk.due("text(3, 0) of an empty text", desk.post.text(3, 0), 0);
    }

    private static void pathPlaces() {
        Desk.sentence("The character at place i of the sender (r = -1) or of recipient r (from 0) of letter m; 0 when there is no such letter with a seal, recipient or place");
        Desk desk = goneStandingUnsealed();
        for (int m : NO_LETTERS) {
            Desk.due("path(" + m + ", -1, 0)", desk.post.path(m, -1, 0), 0);
            Desk.due("path(" + m + ", 0, 0)", desk.post.path(m, 0, 0), 0);
        }
        int[] noRecipients = {-2, 1, 3, 4, LEAST, MOST};
        for (int r : noRecipients) {
            Desk.due("path(1, " + r + ", 0)", desk.post.path(1, r, 0), 0);
        }
        int[] noPlaces = {-1, 3, 39, 40, LEAST, MOST};
        for (int i : noPlaces) {
            Desk.due("path(1, -1, " + i + ")", desk.post.path(1, -1, i), 0);
            Desk.due("path(1, 0, " + i + ")", desk.post.path(1, 0, i), 0);
        }
        Desk.due("sender", desk.path(1, -1), "s@h");
        Desk.due("recipient", desk.path(1, 0), "b@h");
    }

    private static void recipientPlaces() {
        Desk.sentence("its tries, if it waits; 10 when it is delivered, 20 when it is returned; NONE when there is no such letter with a seal, or recipient");
        Desk desk = goneStandingUnsealed();
        for (int m : NO_LETTERS) {
            Desk.due("recipient(" + m + ", 0)", desk.post.recipient(m, 0), -1);
        }
        int[] noRecipients = {-1, 1, 3, 4, LEAST, MOST};
        for (int r : noRecipients) {
            Desk.due("recipient(1, " + r + ")", desk.post.recipient(1, r), -1);
        }
        Desk.due("recipient(1, 0)", desk.post.recipient(1, 0), 0);
        desk = new Desk().openText("", "a@h", "b@h", "c@h", "d@h").sealed();
        desk.post.reply(250);
        desk.post.reply(550);
        desk.post.reply(450);
        int[] told = {10, 20, 1, 0};
        for (int r = 0; r < told.length; r++) {
            Desk.due("recipient(0, " + r + ")", desk.post.recipient(0, r), told[r]);
        }
        Desk.due("recipient(0, 4)", desk.post.recipient(0, 4), -1);
    }

    private static void duePlaces() {
        Desk.sentence("When recipient r of letter m is due, if it waits; NONE otherwise");
        Desk desk = goneStandingUnsealed();
        for (int m : NO_LETTERS) {
            Desk.due("due(" + m + ", 0)", desk.post.due(m, 0), -1);
        }
        int[] noRecipients = {-1, 1, 3, 4, LEAST, MOST};
        for (int r : noRecipients) {
            Desk.due("due(1, " + r + ")", desk.post.due(1, r), -1);
        }
        Desk.due("due(1, 0)", desk.post.due(1, 0), 0);
        desk = new Desk();
        desk.post.pass(7);
        desk.openText("", "a@h", "b@h", "c@h", "d@h").sealed();
        desk.post.pass(1);
        desk.post.reply(250);
        desk.post.reply(550);
        desk.post.reply(450);
        int[] told = {-1, -1, 12, 7};
        for (int r = 0; r < told.length; r++) {
            Desk.due("due(0, " + r + ")", desk.post.due(0, r), told[r]);
        }
    }

    private static void fullSpool() {
        Desk.sentence("THE SPOOL has letters; each has a number");
        Desk desk = new Desk();
        for (int i = 0; i < 6; i++) {
            desk.openText("s" + i + "@h", "a" + i + "@h", "b" + i + "@h").hear("t" + i, 0);
            desk.sealed();
        }
        for (int m = 0; m < 6; m++) {
            Desk.due("text of " + m, desk.text(m), "t" + m + "\n");
            Desk.due("sender of " + m, desk.path(m, -1), "s" + m + "@h");
            Desk.due("first recipient of " + m, desk.path(m, 0), "a" + m + "@h");
            Desk.due("second recipient of " + m, desk.path(m, 1), "b" + m + "@h");
            Desk.due("third recipient of " + m, desk.post.recipient(m, 2), -1);
        }
    }
}
