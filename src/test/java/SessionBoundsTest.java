/** The bounds of the session, its replies and the text that it takes: one test for each sentence that names one. */
public final class SessionBoundsTest {
    private static final String[] EMPTY = {};

    public static void main(String[] args) {
        atFirst();
        wordBeforeTheBlank();
        wordsInAnyLetters();
        noSuchWord();
        greetingWritten();
        senderWritten();
        recipientWritten();
        othersAlone();
        unknownBeforeWrongBeforeUntimely();
        greetingEndsTheTransaction();
        senderNotNow();
        senderWithoutRoom();
        senderNothing();
        recipientNotNow();
        recipientsFull();
        recipientsOfEachNumber();
        textNotNow();
        textAtFirstEmpty();
        resetAndQuit();
        dotAlone();
        dotTakenAway();
        longestText();
        longestTextOfEmptyLines();
        tooLongStaysTooLong();
        countedWithoutItsDot();
        transactionIsOver();
        noRoomAtTheEnd();
        tooLongBeforeNoRoom();
        answersWhenDown();
        states();
        Desk.end();
    }

    private static void atFirst() {
        Desk.sentence("At first it is not greeted, has none, and takes none");
        Desk desk = new Desk();
        Desk.due("state()", desk.post.state(), 1);
        desk.hear("MAIL FROM:<>", 503);
        desk.hear("RCPT TO:<a@b>", 503);
        desk.hear("DATA", 503);
        desk.hear(".", 500);
        Desk.due("state()", desk.post.state(), 1);
    }

    private static void wordBeforeTheBlank() {
        Desk.sentence("its WORD is what stands before its first blank (all of it, if it has none)");
        Desk desk = new Desk();
        desk.hearAll(500, "", " ", "  ", " NOOP", " HELO a", "N", "NOO", "NOOPP", "NOOPP x", "HELOa", "HELO-a b", "NO OP", "NOOP-");
        desk.hearAll(501, "NOOP ", "NOOP  ", "NOOP NOOP", "HELO ");
        desk.hear("NOOP", 250);
    }

    private static void wordsInAnyLetters() {
        Desk.sentence("capital and small letters alike");
        String[] words = {"HELO", "EHLO", "MAIL", "RCPT", "DATA", "RSET", "NOOP", "QUIT"};
        String[] rests = {" a", " a", " FROM:<>", " TO:<a@b>", "", "", "", ""};
        int[] wants = {250, 250, 503, 503, 503, 250, 250, 221};
        for (int w = 0; w < words.length; w++) {
            for (int mask = 0; mask < 16; mask++) {
                new Desk().hear(written(words[w], mask) + rests[w], wants[w]);
            }
        }
    }

    private static String written(String word, int smallOnes) {
        StringBuilder all = new StringBuilder(word);
        for (int i = 0; i < word.length(); i++) {
            if ((smallOnes >> i & 1) == 1) {
                all.setCharAt(i, Character.toLowerCase(word.charAt(i)));
            }
        }
        return all.toString();
    }

    private static void noSuchWord() {
        Desk.sentence("500 the word is none of HELO, EHLO, MAIL, RCPT, DATA, RSET, NOOP, QUIT");
        Desk desk = new Desk();
        desk.hearAll(500, "VRFY", "HELP", "EXPN a", "HEL0 a", "HELO\\a", "[ELO a", "MAIM FROM:<>", "DAT@", "`AIL FROM:<>", "QUI4");
        desk.hearAll(500, ".HELO a", "HELO. a", "FROM:<a@b>", "TO:<a@b>", "HELO@ a", "N" + "O".repeat(71));
        Desk.due("state()", desk.post.state(), 1);
    }

    private static void greetingWritten() {
        Desk.sentence("501 the line is not just as follows: HELO and EHLO, a blank, a domain");
        Desk desk = new Desk();
        desk.hearAll(501, "HELO", "EHLO", "HELO ", "EHLO ", "HELO  a", "EHLO  a", "HELO a ", "EHLO a ", "HELO a b", "HELO <a>");
        Desk.due("state()", desk.post.state(), 1);
        desk.hear("HELO a", 250);
        Desk.due("state()", desk.post.state(), 2);
        desk.hear("EHLO b", 250);
    }

    private static void senderWritten() {
        Desk.sentence("MAIL FROM:<path> or MAIL FROM:<>");
        Desk desk = new Desk();
        desk.hear("HELO a", 250);
        desk.hearAll(501, "MAIL", "MAIL ", "MAIL FROM", "MAIL FROM:", "MAIL FROM:<", "MAIL FROM:>", "MAIL FROM:a@b", "MAIL FROM:< >");
        desk.hearAll(501, "MAIL FROM:<<>", "MAIL FROM:<>>", "MAIL FROM:<> ", "MAIL  FROM:<>", "MAIL FROM: <>", "MAIL FROM:<a@b>>");
        desk.hearAll(501, "MAIL FROM:<a@bb", "MAIL FROM:<a@b<", "MAIL FROX:<a@b>", "MAIL FROM;<a@b>", "MAIL FROM:(a@b>", "MAIL FROM:<a@b)");
        desk.hearAll(501, "MAIL FROM:<a@b", "MAIL FROM:a@b>", "MAIL FROM:<a@b> x", "MAIL FROM:<a@b >", "MAIL FROM<a@b>", "MAIL TO:<a@b>");
        Desk.due("state()", desk.post.state(), 2);
        desk.hearAll(250, "MAIL FROM:<>", "RSET", "MAIL FROM:<a@b>", "RSET", "MAIL from:<a@b>", "RSET", "MAIL fROm:<>");
    }

    private static void recipientWritten() {
        Desk.sentence("RCPT TO:<path> (FROM: and TO: with capital and small letters alike)");
        Desk desk = new Desk();
        desk.hearAll(250, "HELO a", "MAIL FROM:<>");
        desk.hearAll(501, "RCPT", "RCPT ", "RCPT TO", "RCPT TO:", "RCPT TO:<", "RCPT TO:>", "RCPT TO:<>", "RCPT TO:< >", "RCPT TO:a@b");
        desk.hearAll(501, "RCPT TO:<a@bb", "RCPT TO:<a@b<", "RCPT TX:<a@b>", "RCPT TO;<a@b>", "RCPT TO:(a@b>", "RCPT TO:<a@b)");
        desk.hearAll(501, "RCPT TO:<a@b", "RCPT TO:a@b>", "RCPT TO:<a@b> ", "RCPT  TO:<a@b>", "RCPT TO: <a@b>", "RCPT FROM:<a@b>");
        desk.hear("DATA", 503);
        desk.hearAll(250, "RCPT TO:<a@b>", "RCPT to:<a@b>", "RCPT tO:<a@b>", "RCPT To:<a@b>");
    }

    private static void othersAlone() {
        Desk.sentence("the others alone");
        Desk desk = new Desk();
        for (String word : new String[] {"DATA", "RSET", "NOOP", "QUIT"}) {
            desk.hearAll(501, word + " ", word + " x", word + "  ", word + " " + word);
        }
        desk.openText("", "r@h").sealed();
        Desk.due("state()", desk.post.state(), 2);
        desk.hearAll(501, "QUIT ", "quit x");
        Desk.due("state() behind a QUIT that is not alone", desk.post.state(), 2);
        desk.hearAll(250, "MAIL FROM:<>", "RCPT TO:<a@b>");
        desk.hearAll(501, "RSET ", "DATA ");
        Desk.due("state() behind a RSET and a DATA that are not alone", desk.post.state(), 3);
    }

    private static void unknownBeforeWrongBeforeUntimely() {
        Desk.sentence("The reply");
        Desk desk = new Desk();
        desk.hearAll(501, "MAIL FROM:<a>", "RCPT TO:<a>", "DATA x");
        desk.hearAll(503, "MAIL FROM:<a@b>", "RCPT TO:<a@b>", "DATA");
        desk.fill(6);
        desk.hearAll(501, "MAIL FROM:<a>");
        desk.hearAll(452, "MAIL FROM:<a@b>", "MAIL FROM:<>");
        desk.hear("QUIT", 221);
        desk.hear("MAIL FROM:<a@b>", 503);
    }

    private static void greetingEndsTheTransaction() {
        Desk.sentence("HELO, EHLO: 250, it is greeted, and has no transaction any more");
        for (String word : new String[] {"HELO", "EHLO"}) {
            Desk desk = new Desk();
            desk.hearAll(250, word + " a", word + " b", "MAIL FROM:<s@h>", "RCPT TO:<a@b>", word + " c");
            Desk.due("state()", desk.post.state(), 2);
            desk.hearAll(503, "RCPT TO:<a@b>", "DATA");
            desk.hear("MAIL FROM:<>", 250);
            desk.hear("DATA", 503);
            desk.hear("RCPT TO:<c@d>", 250);
            desk.hear("DATA", 354);
            desk.sealed();
            Desk.due("sender", desk.path(0, -1), "");
            Desk.due("the one recipient", desk.path(0, 0), "c@d");
            Desk.due("recipient(0, 1)", desk.post.recipient(0, 1), -1);
        }
    }

    private static void senderNotNow() {
        Desk.sentence("MAIL: 503 it is not greeted or has a transaction");
        Desk desk = new Desk();
        desk.hear("MAIL FROM:<a@b>", 503);
        Desk.due("state()", desk.post.state(), 1);
        desk.hearAll(250, "HELO a", "MAIL FROM:<s@h>");
        desk.hearAll(503, "MAIL FROM:<t@h>", "MAIL FROM:<>");
        desk.hear("RCPT TO:<a@b>", 250);
        desk.hear("MAIL FROM:<t@h>", 503);
        desk.hear("DATA", 354);
        desk.sealed();
        Desk.due("the sender is the first one", desk.path(0, -1), "s@h");
        Desk.due("the recipient stays", desk.path(0, 0), "a@b");
    }

    private static void senderWithoutRoom() {
        Desk.sentence("452 the spool has 6 letters");
        Desk desk = new Desk().fill(5);
        desk.hear("MAIL FROM:<a@b>", 250);
        desk.hear("RSET", 250);
        desk.fill(1);
        desk.hear("MAIL FROM:<a@b>", 452);
        Desk.due("state()", desk.post.state(), 2);
        desk.hear("RCPT TO:<a@b>", 503);
        Desk.due("reply(250)", desk.post.reply(250), 1);
        desk.hear("MAIL FROM:<a@b>", 250);
    }

    private static void senderNothing() {
        Desk.sentence("a sender (a path, or nothing)");
        Desk desk = new Desk().send("s@h", "a@b").send("", "a@b");
        Desk.due("a path", desk.path(0, -1), "s@h");
        Desk.due("nothing, behind a path", desk.path(1, -1), "");
    }

    private static void recipientNotNow() {
        Desk.sentence("RCPT: 503 it has no transaction");
        Desk desk = new Desk();
        desk.hear("RCPT TO:<a@b>", 503);
        desk.hear("HELO a", 250);
        desk.hear("RCPT TO:<a@b>", 503);
        desk.hear("MAIL FROM:<>", 250);
        desk.hear("DATA", 503);
        desk.hear("RCPT TO:<a@b>", 250);
    }

    private static void recipientsFull() {
        Desk.sentence("RCPT: 503 it has no transaction; 452 it has 4 recipients; 250, one more");
        Desk desk = new Desk();
        desk.hearAll(250, "HELO a", "MAIL FROM:<>", "RCPT TO:<a@b>", "RCPT TO:<a@b>", "RCPT TO:<c@b>", "RCPT TO:<d@b>");
        desk.hearAll(452, "RCPT TO:<e@b>", "RCPT TO:<a@b>");
        Desk.due("state()", desk.post.state(), 3);
        desk.hear("DATA", 354);
        desk.sealed();
        String[] kept = {"a@b", "a@b", "c@b", "d@b", ""};
        for (int r = 0; r < kept.length; r++) {
            Desk.due("path of " + r, desk.path(0, r), kept[r]);
            Desk.due("recipient(0, " + r + ")", desk.post.recipient(0, r), r < 4 ? 0 : -1);
        }
    }

    private static void recipientsOfEachNumber() {
        Desk.sentence("and at most 4 RECIPIENTS (paths)");
        String[] all = {"a@h", "b@h", "c@h", "d@h"};
        for (int count = 1; count <= 4; count++) {
            Desk desk = new Desk().openText("", java.util.Arrays.copyOf(all, count)).sealed();
            for (int r = 0; r < 4; r++) {
                Desk.due("recipient(0, " + r + ") of " + count, desk.post.recipient(0, r), r < count ? 0 : -1);
                Desk.due("path(0, " + r + ") of " + count, desk.path(0, r), r < count ? all[r] : "");
            }
        }
    }

    private static void textNotNow() {
        Desk.sentence("DATA: 503 it has no transaction, or that has no recipient");
        Desk desk = new Desk();
        desk.hear("DATA", 503);
        desk.hear("HELO a", 250);
        desk.hear("DATA", 503);
        desk.hear("MAIL FROM:<>", 250);
        desk.hear("DATA", 503);
        Desk.due("state()", desk.post.state(), 3);
        desk.hear("RCPT TO:<a@b>", 250);
        desk.hear("DATA", 354);
        Desk.due("state()", desk.post.state(), 4);
    }

    private static void textAtFirstEmpty() {
        Desk.sentence("354, it takes a text, at first empty");
        Desk desk = new Desk().send("", "r@h", "one", "two").send("", "r@h", EMPTY);
        Desk.due("an empty text behind another", desk.text(1), "");
        Desk.due("parts(1)", desk.post.parts(1), 1);
        desk.openText("", "r@h").hearAll(0, nineLines(1));
        desk.hear(".", 552);
        desk.send("", "r@h", EMPTY);
        Desk.due("an empty text behind one too long", desk.text(2), "");
    }

    private static void resetAndQuit() {
        Desk.sentence("RSET: 250, it has no transaction any more. NOOP: 250. QUIT: 221, it is as at first");
        Desk desk = new Desk();
        desk.hear("RSET", 250);
        Desk.due("state() not greeted", desk.post.state(), 1);
        desk.hearAll(250, "HELO a", "RSET");
        Desk.due("state() greeted", desk.post.state(), 2);
        desk.hearAll(250, "MAIL FROM:<s@h>", "RCPT TO:<a@b>", "NOOP");
        Desk.due("state() behind NOOP", desk.post.state(), 3);
        desk.hear("RSET", 250);
        Desk.due("state() behind RSET", desk.post.state(), 2);
        desk.hearAll(250, "MAIL FROM:<>");
        desk.hear("DATA", 503);
        desk.hear("QUIT", 221);
        Desk.due("state() behind QUIT", desk.post.state(), 1);
        desk.hear("QUIT", 221);
        desk.hearAll(503, "MAIL FROM:<>", "RCPT TO:<a@b>", "DATA");
    }

    private static void dotAlone() {
        Desk.sentence("While a text is taken, the line . alone ends it");
        Desk desk = new Desk().openText("", "r@h");
        desk.hearAll(0, "", " .", ". ", "..", "a", "QUIT", "RSET", "DATA", "HELO a", "VRFY");
        Desk.due("state()", desk.post.state(), 4);
        desk.sealed();
        Desk.due("state()", desk.post.state(), 2);
        Desk.due("text", desk.text(0), "\n .\n \n.\na\nQUIT\nRSET\nDATA\nHELO a\nVRFY\n");
        desk.hear(".", 500);
    }

    private static void dotTakenAway() {
        Desk.sentence("Of any other line a . at its beginning is taken away, and it is put behind the text; there is no reply then (0)");
        Desk desk = new Desk().openText("", "r@h");
        desk.hearAll(0, "..", "...", ".a", "a.", "", "a.b", ". .", "." + "x".repeat(71));
        desk.sealed();
        Desk.due("text", desk.text(0), ".\n..\na\na.\n\na.b\n .\n" + "x".repeat(71) + "\n");
    }

    /** Nine lines, eight of them with 73 characters and the last one so that all have the 600 and as many more as told. */
    private static String[] nineLines(int more) {
        String[] lines = new String[9];
        java.util.Arrays.fill(lines, "x".repeat(72));
        lines[8] = "y".repeat(600 - 8 * 73 - 1 + more);
        return lines;
    }

    private static void longestText() {
        Desk.sentence("A text of more than 600 characters, each line counted with one more for its end, is TOO LONG");
        int[] mores = {-1, 0, 1, 2};
        for (int more : mores) {
            Desk desk = new Desk().openText("", "r@h");
            desk.hearAll(0, nineLines(more));
            desk.hear(".", more <= 0 ? 250 : 552);
            Desk.due("letters()", desk.post.letters(), more <= 0 ? 1 : 0);
            Desk.due("the last character", desk.post.text(0, 598 + more), more <= 0 ? 'y' : 0);
            Desk.due("the last line's end", desk.post.text(0, 599 + more), more <= 0 ? 10 : 0);
            Desk.due("behind it", desk.post.text(0, 600 + more), 0);
        }
        Desk desk = new Desk().openText("", "r@h");
        desk.hearAll(0, nineLines(-1));
        desk.hear("", 0);
        desk.sealed();
        desk.openText("", "r@h").hearAll(0, nineLines(0));
        desk.hear("", 0);
        desk.hear(".", 552);
    }

    private static void longestTextOfEmptyLines() {
        Desk.sentence("each line counted with one more for its end");
        for (int size = 600; size <= 601; size++) {
            Desk desk = new Desk().openText("", "r@h");
            for (int i = 0; i < size - 219; i++) {
                Desk.due("enter() of an empty line", desk.post.enter(), 0);
            }
            desk.hearAll(0, "x".repeat(72), "x".repeat(72), "x".repeat(72));
            desk.hear(".", size == 600 ? 250 : 552);
            Desk.due("its lines", desk.post.part(0, 0, 3), size == 600 ? 384 : -1);
            Desk.due("its last place", desk.post.text(0, size - 1), size == 600 ? 10 : 0);
        }
    }

    private static void tooLongStaysTooLong() {
        Desk.sentence("The reply is 552 if the text is too long");
        Desk desk = new Desk().openText("", "r@h");
        desk.hearAll(0, nineLines(1));
        desk.hearAll(0, "", "z");
        Desk.due("state() still takes it", desk.post.state(), 4);
        desk.hear(".", 552);
        Desk.due("state()", desk.post.state(), 2);
        Desk.due("letters()", desk.post.letters(), 0);
        desk.openText("", "r@h").hearAll(0, nineLines(0));
        desk.sealed();
        Desk.due("the first number", desk.numbers(), "0");
        Desk.due("no write", desk.post.breakAfter(0), true);
        desk.openText("", "r@h").hearAll(0, nineLines(1));
        desk.hear(".", 552);
        Desk.due("state()", desk.post.state(), 2);
    }

    private static void countedWithoutItsDot() {
        Desk.sentence("Of any other line a . at its beginning is taken away, and it is put behind the text");
        for (int more = 0; more <= 1; more++) {
            String[] lines = nineLines(more);
            lines[8] = "." + lines[8];
            Desk desk = new Desk().openText("", "r@h");
            desk.hearAll(0, lines);
            desk.hear(".", more == 0 ? 250 : 552);
        }
    }

    private static void transactionIsOver() {
        Desk.sentence("At the end of a text the transaction is over");
        Desk desk = new Desk().send("s@h", "a@b", "x");
        isOver(desk);
        desk.openText("s@h", "a@b").hearAll(0, nineLines(1));
        desk.hear(".", 552);
        isOver(desk);
        Desk full = takingWhenFull();
        full.hear(".", 452);
        isOver(full);
    }

    private static void isOver(Desk desk) {
        Desk.due("state()", desk.post.state(), 2);
        desk.hearAll(503, "RCPT TO:<a@b>", "DATA");
    }

    /** The only way to a full spool while a text is taken: a return is spooled meanwhile. */
    private static Desk takingWhenFull() {
        Desk desk = new Desk().openText("s@h", "a@h", "b@h").sealed().fill(4);
        desk.openText("t@h", "c@h");
        Desk.due("letters()", desk.post.letters(), 5);
        Desk.due("reply(550)", desk.post.reply(550), 2);
        Desk.due("letters()", desk.post.letters(), 6);
        return desk;
    }

    private static void noRoomAtTheEnd() {
        Desk.sentence("else 452 if the spool has 6 letters. Otherwise the letter is SPOOLED, and the reply is 250");
        Desk full = takingWhenFull();
        full.post.breakAfter(0);
        full.hear(".", 452);
        Desk.due("state(), since nothing was written", full.post.state(), 2);
        Desk.due("numbers", full.numbers(), "0 1 2 3 4 5");
        Desk five = takingWhenFull();
        Desk.due("reply(250)", five.post.reply(250), 1);
        Desk.due("letters()", five.post.letters(), 5);
        five.hear(".", 250);
        Desk.due("numbers", five.numbers(), "1 2 3 4 5 6");
    }

    private static void tooLongBeforeNoRoom() {
        Desk.sentence("The reply is 552 if the text is too long, else 452 if the spool has 6 letters");
        Desk desk = takingWhenFull();
        desk.hearAll(0, nineLines(1));
        desk.hear(".", 552);
        desk = takingWhenFull();
        desk.hearAll(0, nineLines(0));
        desk.hear(".", 452);
    }

    private static void answersWhenDown() {
        Desk.sentence("Answers the reply, 0 for none, also when the breakdown came; NONE, refused, when the server is down");
        Desk desk = new Desk().openText("", "r@h");
        Desk.due("enter() of a text's line", desk.post.enter(), 0);
        desk.post.breakAfter(0);
        desk.hear(".", 0);
        Desk.due("enter() when down", desk.post.enter(), -1);
        Desk.due("type(0) when down", desk.post.type(0), false);
        Desk.due("type('a') when down", desk.post.type('a'), false);
        Desk.due("restart()", desk.post.restart(), 0);
        Desk.due("enter() of an empty line", desk.post.enter(), 500);
    }

    private static void states() {
        Desk.sentence("0 when the server is down, 1 up and not greeted, 2 greeted without a transaction, 3 with one, 4 when it takes a text");
        Desk desk = new Desk();
        Desk.due("new", desk.post.state(), 1);
        desk.hear("HELO a", 250);
        Desk.due("greeted", desk.post.state(), 2);
        desk.hear("MAIL FROM:<>", 250);
        Desk.due("with a transaction", desk.post.state(), 3);
        desk.hear("RCPT TO:<a@b>", 250);
        Desk.due("with a recipient", desk.post.state(), 3);
        desk.hear("DATA", 354);
        Desk.due("taking a text", desk.post.state(), 4);
        desk.post.breakAfter(0);
        Desk.due("with an order alone", desk.post.state(), 4);
        desk.hear(".", 0);
        Desk.due("down", desk.post.state(), 0);
        desk.post.restart();
        Desk.due("up again", desk.post.state(), 1);
    }
}
