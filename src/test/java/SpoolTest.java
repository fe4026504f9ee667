/** Promises 4, 5 and 10 to 15: breakAfter, restart, and what the spool tells. */
public final class SpoolTest {
    public static void main(String[] args) {
        breakdownOrders();
        breakdownOfSpooling();
        starting();
        fullSpool();
        fullAtTheEnd();
        listing();
        texts();
        paths();
        recipients();
        Desk.end();
    }

    private static void breakdownOrders() {
        Desk.promise("promise 4");
        Desk desk = new Desk();
        Desk.due("breakAfter(-1)", desk.post.breakAfter(-1), false);
        Desk.due("breakAfter(21)", desk.post.breakAfter(21), false);
        Desk.due("breakAfter(MIN)", desk.post.breakAfter(Integer.MIN_VALUE), false);
        desk.send("", "r@h", "not broken by refused orders");
        Desk.due("breakAfter(0)", desk.post.breakAfter(0), true);
        Desk.due("breakAfter(20)", desk.post.breakAfter(20), true);
        Desk.due("breakAfter(21)", desk.post.breakAfter(21), false);
        desk.send("", "r@h", "in place of 0");
        for (int i = 0; i < 2; i++) {
            Desk.due("breakAfter(3)", desk.post.breakAfter(3), true);
            desk.send("", "r@h", "two writes");
        }
        Desk.due("third write", desk.post.reply(200), 1);
        Desk.due("state()", desk.post.state(), 4 - 2);
        Desk.due("fourth write", desk.post.reply(200), 0);
        Desk.due("state()", desk.post.state(), 0);
        Desk.due("breakAfter(1) when down", desk.post.breakAfter(1), false);
        Desk.due("letters()", desk.post.letters(), 3);
        twentyWrites();
    }

    private static void twentyWrites() {
        Desk desk = new Desk();
        desk.send("", "r@h", "x");
        desk.post.breakAfter(20);
        for (int i = 0; i < 6; i++) {
            desk.send("", "r@h", "x");
            Desk.due("reply(250)", desk.post.reply(250), 1);
        }
        desk.send("", "r@h", "x");
        Desk.due("the 21st write", desk.post.reply(250), 0);
        Desk.due("state()", desk.post.state(), 0);
    }

    private static void breakdownOfSpooling() {
        Desk.promise("promises 3, 4 and 5");
        Desk desk = new Desk();
        for (int writes = 0; writes < 2; writes++) {
            desk.openText("s@h", "r@h").hear("lost", 0);
            desk.post.breakAfter(writes);
            desk.hear(".", 0);
            nothingStands(desk, writes);
            Desk.due("restart()", desk.post.restart(), 0);
            Desk.due("letters()", desk.post.letters(), 0);
            Desk.due("next()", desk.post.next(), -1);
        }
        desk.post.breakAfter(2);
        desk.send("s@h", "r@h", "kept");
        Desk.due("state()", desk.post.state(), 2);
        Desk.due("numbers behind two that failed", desk.numbers(), "2");
        Desk.due("text", desk.text(2), "kept\n");
    }

    private static void nothingStands(Desk desk, int m) {
        Desk.due("state()", desk.post.state(), 0);
        Desk.due("letters()", desk.post.letters(), 0);
        Desk.due("letter(0)", desk.post.letter(0), -1);
        Desk.due("next()", desk.post.next(), -1);
        Desk.due("text", desk.post.text(m, 0), 0);
        Desk.due("sender", desk.post.path(m, -1, 0), 0);
        Desk.due("path", desk.post.path(m, 0, 0), 0);
        Desk.due("recipient", desk.post.recipient(m, 0), -1);
        Desk.due("due", desk.post.due(m, 0), -1);
        Desk.due("parts", desk.post.parts(m), -1);
        Desk.due("part", desk.post.part(m, 0, 0), -1);
        Desk.due("enter()", desk.post.enter(), -1);
        Desk.due("type()", desk.post.type('a'), false);
        Desk.due("type(0)", desk.post.type(0), false);
        Desk.due("reply(250)", desk.post.reply(250), -1);
    }

    private static void starting() {
        Desk.promise("promise 5");
        Desk desk = new Desk();
        Desk.due("restart() of a new one", desk.post.restart(), -1);
        desk.send("s@h", "a@h", "one").send("s@h", "b@h", "two");
        desk.openText("s@h", "c@h");
        desk.hear(".", 250);
        desk.typeAll("NOOP");
        Desk.due("restart() when up", desk.post.restart(), -1);
        Desk.due("state()", desk.post.state(), 2);
        desk.post.breakAfter(0);
        Desk.due("reply(250)", desk.post.reply(250), 0);
        Desk.due("what was accepted stands", desk.numbers(), "0 1 2");
        Desk.due("text when down", desk.text(1), "two\n");
        Desk.due("pass(7) when down", desk.post.pass(7), 7);
        Desk.due("restart()", desk.post.restart(), 3);
        Desk.due("state()", desk.post.state(), 1);
        Desk.due("restart() again", desk.post.restart(), -1);
        desk.hear("", 500);
        desk.hear("RCPT TO:<a@b>", 503);
        desk.send("s@h", "d@h", "no order any more");
        Desk.due("reply(250)", desk.post.reply(250), 1);
        Desk.due("numbers", desk.numbers(), "1 2 3");
        Desk.due("due of the old", desk.post.due(1, 0), 0);
        Desk.due("due of the new", desk.post.due(3, 0), 7);
        startingWhileATextIsTaken();
        lettersWithoutASealLeaveNothing();
    }

    private static void startingWhileATextIsTaken() {
        Desk desk = new Desk().send("s@h", "a@h", "one").openText("s@h", "c@h");
        Desk.due("restart() when up", desk.post.restart(), -1);
        Desk.due("state()", desk.post.state(), 4);
        desk.hear("a line", 0);
        desk.post.breakAfter(0);
        Desk.due("reply(250)", desk.post.reply(250), 0);
        Desk.due("restart()", desk.post.restart(), 1);
        Desk.due("state()", desk.post.state(), 1);
        desk.hear("NOOP", 250);
        desk.hear("HELO h", 250);
        desk.hear("RCPT TO:<a@b>", 503);
    }

    private static void lettersWithoutASealLeaveNothing() {
        Desk desk = new Desk();
        for (int round = 0; round < 14; round++) {
            if (round == 7) {
                desk.send("s@h", "a@h", "one");
            }
            desk.openText("s@h", "b@h");
            desk.post.breakAfter(1);
            desk.hear(".", 0);
            Desk.due("restart()", desk.post.restart(), round < 7 ? 0 : 1);
        }
        Desk.due("numbers", desk.numbers(), "7");
        for (int i = 0; i < 5; i++) {
            desk.send("s@h", "c@h", "more");
        }
        Desk.due("numbers", desk.numbers(), "7 15 16 17 18 19");
    }

    private static void fullSpool() {
        Desk.promise("promises 3 and 10, a full spool");
        Desk desk = new Desk();
        for (int i = 0; i < 6; i++) {
            Desk.due("letters()", desk.post.letters(), i);
            desk.send("s@h", "r" + i + "@h", "text " + i);
        }
        Desk.due("letters()", desk.post.letters(), 6);
        desk.hear("MAIL FROM:<a@b>", 452);
        Desk.due("state()", desk.post.state(), 2);
        desk.hear("MAIL FROM:<a>", 501);
        desk.hear("QUIT", 221);
        desk.hear("MAIL FROM:<a@b>", 503);
        desk.post.breakAfter(0);
        Desk.due("reply(250)", desk.post.reply(250), 0);
        Desk.due("restart() with a full spool", desk.post.restart(), 6);
        Desk.due("reply(250)", desk.post.reply(250), 1);
        desk.send("s@h", "r6@h", "text 6");
        Desk.due("numbers", desk.numbers(), "1 2 3 4 5 6");
        for (int m = 1; m < 7; m++) {
            Desk.due("text", desk.text(m), "text " + m + "\n");
            Desk.due("path", desk.path(m, 0), "r" + m + "@h");
            Desk.due("sender", desk.path(m, -1), "s@h");
        }
    }

    private static void fullAtTheEnd() {
        Desk.promise("promise 3, full at the end of a text");
        Desk desk = new Desk();
        desk.openText("s@h", "a@h", "b@h").hear(".", 250);
        for (int i = 1; i < 5; i++) {
            desk.send("", "r@h", "x");
        }
        desk.openText("s@h", "c@h").hear("late", 0);
        Desk.due("reply(550)", desk.post.reply(550), 2);
        Desk.due("letters()", desk.post.letters(), 6);
        desk.hear(".", 452);
        Desk.due("state()", desk.post.state(), 2);
        Desk.due("numbers", desk.numbers(), "0 1 2 3 4 5");
        Desk.due("reply(250)", desk.post.reply(250), 1);
        desk.send("", "r@h", "next");
        Desk.due("a refused letter has no number", desk.numbers(), "1 2 3 4 5 6");
    }

    private static void listing() {
        Desk.promise("promises 10 and 11");
        Desk desk = new Desk();
        desk.send("s@h", "a@h").send("", "b@h").send("", "c@h");
        Desk.due("letter(-1)", desk.post.letter(-1), -1);
        Desk.due("letter(2)", desk.post.letter(2), 2);
        Desk.due("letter(3)", desk.post.letter(3), -1);
        Desk.due("letter(MAX)", desk.post.letter(Integer.MAX_VALUE), -1);
        Desk.due("reply(400)", desk.post.reply(400), 0);
        Desk.due("reply(250)", desk.post.reply(250), 1);
        Desk.due("numbers when the middle one is gone", desk.numbers(), "0 2");
        Desk.due("letters()", desk.post.letters(), 2);
        desk.post.pass(4);
        Desk.due("reply(250)", desk.post.reply(250), 1);
        desk.post.breakAfter(1);
        Desk.due("reply(550) breaks at the seal", desk.post.reply(550), 0);
        Desk.due("without a seal left out", desk.numbers(), "0");
        Desk.due("letters()", desk.post.letters(), 1);
        Desk.due("text of the one without a seal", desk.post.text(3, 1), 0);
        Desk.due("restart()", desk.post.restart(), 1);
        Desk.due("reply(550)", desk.post.reply(550), 2);
        Desk.due("numbers", desk.numbers(), "4");
    }

    private static void texts() {
        Desk.promise("promise 12");
        Desk desk = new Desk().send("s@h", "r@h", "ab", "", "c");
        Desk.due("text", desk.text(0), "ab\n\nc\n");
        Desk.due("text(0, -1)", desk.post.text(0, -1), 0);
        Desk.due("text(0, 6)", desk.post.text(0, 6), 0);
        Desk.due("text(0, MIN)", desk.post.text(0, Integer.MIN_VALUE), 0);
        Desk.due("text(0, MAX)", desk.post.text(0, Integer.MAX_VALUE), 0);
        Desk.due("text(1, 0)", desk.post.text(1, 0), 0);
        Desk.due("text(-1, 0)", desk.post.text(-1, 0), 0);
        desk.post.reply(250);
        Desk.due("text of a letter that is gone", desk.post.text(0, 0), 0);
    }

    private static void paths() {
        Desk.promise("promise 13");
        String longest = "l".repeat(7) + "@" + "d".repeat(32);
        Desk desk = new Desk();
        desk.openText("S.s@Host.x", "a@b", longest).hear(".", 250);
        desk.openText("", "c@d").hear(".", 250);
        Desk.due("sender as written", desk.path(0, -1), "S.s@Host.x");
        Desk.due("recipient 0", desk.path(0, 0), "a@b");
        Desk.due("recipient 1", desk.path(0, 1), longest);
        Desk.due("recipient 2", desk.path(0, 2), "");
        Desk.due("no sender", desk.path(1, -1), "");
        Desk.due("recipient of letter 1", desk.path(1, 0), "c@d");
        Desk.due("path(0, -2, 0)", desk.post.path(0, -2, 0), 0);
        Desk.due("path(0, 0, -1)", desk.post.path(0, 0, -1), 0);
        Desk.due("path(0, 0, 3)", desk.post.path(0, 0, 3), 0);
        Desk.due("path(0, -1, 10)", desk.post.path(0, -1, 10), 0);
        Desk.due("path(0, 1, 40)", desk.post.path(0, 1, 40), 0);
        Desk.due("path(2, 0, 0)", desk.post.path(2, 0, 0), 0);
        Desk.due("path(-1, -1, 0)", desk.post.path(-1, -1, 0), 0);
        desk.post.reply(250);
        Desk.due("a delivered one's path", desk.path(0, 0), "a@b");
        desk.post.reply(250);
        Desk.due("a gone letter's path", desk.path(0, 0), "");
        Desk.due("a gone letter's sender", desk.path(0, -1), "");
    }

    private static void recipients() {
        Desk.promise("promises 14 and 15");
        Desk desk = new Desk();
        desk.post.pass(5);
        desk.openText("", "a@h", "b@h", "c@h").hear(".", 250);
        Desk.due("recipient(0, 3)", desk.post.recipient(0, 3), -1);
        Desk.due("recipient(0, -1)", desk.post.recipient(0, -1), -1);
        Desk.due("recipient(1, 0)", desk.post.recipient(1, 0), -1);
        Desk.due("due(0, 3)", desk.post.due(0, 3), -1);
        Desk.due("due(0, -1)", desk.post.due(0, -1), -1);
        Desk.due("due(1, 0)", desk.post.due(1, 0), -1);
        Desk.due("due(0, 2)", desk.post.due(0, 2), 5);
        desk.post.reply(299);
        desk.post.reply(599);
        desk.post.reply(499);
        Desk.due("delivered", desk.post.recipient(0, 0), 10);
        Desk.due("returned", desk.post.recipient(0, 1), 20);
        Desk.due("waiting", desk.post.recipient(0, 2), 1);
        Desk.due("due of a delivered one", desk.post.due(0, 0), -1);
        Desk.due("due of a returned one", desk.post.due(0, 1), -1);
        Desk.due("due of a waiting one", desk.post.due(0, 2), 9);
        desk.post.pass(4);
        desk.post.reply(250);
        Desk.due("recipient of a gone letter", desk.post.recipient(0, 0), -1);
        Desk.due("due of a gone letter", desk.post.due(0, 2), -1);
    }
}
