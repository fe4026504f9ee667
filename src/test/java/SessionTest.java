/** Promises 1, 2, 3 and 9: a new object, type, enter and state. */
public final class SessionTest {
    public static void main(String[] args) {
        newObject();
        typing();
        words();
        greeting();
        paths();
        order();
        fullTransaction();
        takingText();
        textLength();
        states();
        Desk.end();
    }

    private static void newObject() {
        Desk.promise("promise 1");
        SpooledPost post = new SpooledPost();
        Desk.due("state()", post.state(), 1);
        Desk.due("letters()", post.letters(), 0);
        Desk.due("letter(0)", post.letter(0), -1);
        Desk.due("next()", post.next(), -1);
        Desk.due("restart()", post.restart(), -1);
        Desk.due("pass(0)", post.pass(0), 0);
        Desk.due("enter()", post.enter(), 500);
        Desk other = new Desk().send("", "r@h", "x");
        Desk.due("number of the first letter", other.post.letter(0), 0);
        Desk.due("due(0, 0)", other.post.due(0, 0), 0);
        Desk.due("another object's letters()", post.letters(), 0);
    }

    private static void typing() {
        Desk.promise("promise 2");
        Desk desk = new Desk();
        Desk.due("type(0)", desk.post.type(0), true);
        Desk.due("a 0 ends the row", desk.post.type(0x7F0000L | 'N'), true);
        Desk.due("a bad code behind a 0", desk.post.type(-256L), true);
        Desk.due("code 31", desk.post.type(31), false);
        Desk.due("code 127", desk.post.type(127), false);
        Desk.due("code 255", desk.post.type(-1), false);
        Desk.due("code 10", desk.post.type(10), false);
        Desk.due("one bad of eight", desk.post.type(0x7F41414141414141L), false);
        Desk.due("a bad one behind a good one", desk.post.type(0x1F41), false);
        Desk.due("the rest", desk.post.type(Desk.packed("OOP")), true);
        Desk.due("enter() behind refusals", desk.post.enter(), 250);
        Desk.due("the line is empty again", desk.post.enter(), 500);
        bothEndsOfTheCodes();
        longestLine();
    }

    private static void bothEndsOfTheCodes() {
        Desk desk = new Desk().openText("", "r@h");
        Desk.due("codes 32 and 126", desk.post.type(Desk.packed(" ~")), true);
        Desk.due("eight", desk.post.type(Desk.packed("abcdefgh")), true);
        desk.post.enter();
        desk.say(".");
        Desk.due("text", desk.text(0), " ~abcdefgh\n");
    }

    private static void longestLine() {
        Desk desk = new Desk().openText("", "r@h");
        Desk.due("72 characters", desk.typeAll("a".repeat(72)), true);
        Desk.due("type(0) at 72", desk.post.type(0), true);
        Desk.due("the 73rd", desk.post.type('b'), false);
        desk.post.enter();
        Desk.due("70 characters", desk.typeAll("c".repeat(70)), true);
        Desk.due("three more", desk.post.type(Desk.packed("ddd")), false);
        Desk.due("two more", desk.post.type(Desk.packed("ee")), true);
        desk.post.enter();
        desk.hear(".", 250);
        Desk.due("text", desk.text(0), "a".repeat(72) + "\n" + "c".repeat(70) + "ee\n");
    }

    private static void words() {
        Desk.promise("promise 3, words");
        Desk desk = new Desk();
        desk.hearAll(500, "", " ", " NOOP", "NOO", "NOOPS", "NOOPS x", "VRFY a", "MAILFROM:<a@b>", "NOOP.", "HELO-x", "@");
        desk.hearAll(500, "XOOP", "NXOP", "NOXP", "NOOX", "XELO h", "XAIL FROM:<>");
        desk.hearAll(501, "NOOP ", "NOOP x", "RSET ", "QUIT now", "DATA ", "HELO", "EHLO", "MAIL", "RCPT", "HELO ");
        desk.hearAll(250, "NOOP", "noop", "nOoP", "RSET", "rset", "HELO a", "helo a", "EhLo a");
        desk.hearAll(221, "QUIT", "quit", "qUIt");
        desk.hearAll(501, "mail", "rcpt x", "data x");
        desk.hearAll(503, "data", "DATA");
    }

    private static void greeting() {
        Desk.promise("promise 3, domains");
        Desk desk = new Desk();
        String longest = "a".repeat(15) + "." + "b".repeat(16);
        desk.hearAll(250, "HELO a", "HELO 9", "HELO a-b", "HELO a--b.c", "HELO 1.2.3", "EHLO Ab.cD.e", "HELO " + longest);
        desk.hearAll(501, "HELO " + longest + "c", "HELO  a", "HELO a ", "HELO a b", "HELO .", "HELO .a", "HELO a.");
        desk.hearAll(501, "HELO a..b", "HELO -a", "HELO a-", "HELO a.-b", "HELO a-.b", "HELO -", "HELO a_b", "HELO a+b");
        desk.hearAll(250, "HELO aAzZ", "HELO 0.9", "HELO z-Z", "HELO Z.z");
        desk.hearAll(501, "EHLO a@b", "EHLO a/b", "EHLO a:b", "EHLO a[b", "EHLO a`b", "EHLO a{b", "EHLO a.b-");
    }

    private static void paths() {
        Desk.promise("promise 3, paths");
        String local = "l".repeat(7);
        String domain = "d".repeat(32);
        String[] right = {
            "a@b", "a.b@c", "a-b_c+d@e", "-@b", "_@b", "+.-@b", "A.b.C@d.e-f.g", "0@1", "z.Z@z.Z", "9@9", local + "@" + domain,
            "l".repeat(38) + "@d"
        };
        String[] wrong = {
            "@", "a@", "@b", "a", "a@b@c", ".a@b", "a.@b", "a..b@c", "a@.b", "a@b.", "a@-b", "a@b-", "a@b_c", "a@b+c",
            "a b@c", "a@b c", "a/b@c", "<a@b>", "a@b>", " a@b", "a@b ", "l" + local + "@" + domain, "l@d" + domain,
            "l".repeat(39) + "@d"
        };
        for (String path : right) {
            heardPath(path, 250);
        }
        for (String path : wrong) {
            heardPath(path, 501);
        }
        brackets();
    }

    private static void heardPath(String path, int want) {
        Desk desk = new Desk();
        desk.hear("HELO h", 250);
        desk.hear("MAIL FROM:<" + path + ">", want);
        desk.hear("RSET", 250);
        desk.hear("MAIL FROM:<>", 250);
        desk.hear("RCPT TO:<" + path + ">", want);
    }

    private static void brackets() {
        Desk desk = new Desk();
        desk.hear("HELO h", 250);
        desk.hearAll(501, "MAIL FROM:<a@b", "MAIL FROM:a@b", "MAIL FROM:a@b>", "MAIL FROM: <a@b>", "MAIL  FROM:<a@b>");
        desk.hearAll(501, "MAIL FROM <a@b>", "MAIL TO:<a@b>", "MAIL FROM:<a@b> ", "MAIL FROM:<", "MAIL FROM:>", "MAIL <a@b>");
        desk.hearAll(501, "RCPT FROM:<a@b>", "RCPT TO:<>", "RCPT TO:<", "RCPT TO:", "RCPT TO:<a@b>x", "RCPT  TO:<a@b>");
        desk.hear("mail from:<>", 250);
        desk.hearAll(250, "rcpt to:<a@b>", "rCpT tO:<a@b>");
        desk.hear("RSET", 250);
        desk.hear("Mail fRoM:<a@b>", 250);
    }

    private static void order() {
        Desk.promise("promise 3, order");
        Desk desk = new Desk();
        desk.hearAll(503, "MAIL FROM:<>", "RCPT TO:<a@b>", "DATA");
        desk.hearAll(501, "MAIL FROM:<a>", "RCPT TO:<>");
        desk.hear("RSET", 250);
        desk.hear("MAIL FROM:<>", 503);
        desk.hear("HELO h", 250);
        desk.hearAll(503, "RCPT TO:<a@b>", "DATA");
        desk.hear("MAIL FROM:<>", 250);
        desk.hearAll(503, "DATA", "MAIL FROM:<>", "MAIL FROM:<a@b>");
        desk.hear("MAIL FROM:<@>", 501);
        desk.hear("NOOP", 250);
        desk.hear("RCPT TO:<a@b>", 250);
        desk.hear("EHLO h", 250);
        desk.hearAll(503, "RCPT TO:<a@b>", "DATA");
        desk.hear("MAIL FROM:<>", 250);
        desk.hear("DATA", 503);
        desk.hear("RSET", 250);
        desk.hear("RCPT TO:<a@b>", 503);
        desk.hear("MAIL FROM:<>", 250);
        desk.hear("QUIT", 221);
        desk.hearAll(503, "MAIL FROM:<>", "RCPT TO:<a@b>", "DATA");
    }

    private static void fullTransaction() {
        Desk.promise("promise 3, recipients");
        Desk desk = new Desk();
        desk.hear("HELO h", 250);
        desk.hear("MAIL FROM:<s@h>", 250);
        desk.hearAll(250, "RCPT TO:<a@b>", "RCPT TO:<a@b>", "RCPT TO:<c@b>", "RCPT TO:<d@b>");
        desk.hear("RCPT TO:<e@b>", 452);
        desk.hear("RCPT TO:<e@>", 501);
        desk.hear("DATA", 354);
        desk.hear(".", 250);
        Desk.due("path(0, 3)", desk.path(0, 3), "d@b");
        Desk.due("recipient(0, 4)", desk.post.recipient(0, 4), -1);
        desk.hear("MAIL FROM:<t@h>", 250);
        desk.hear("RCPT TO:<f@b>", 250);
        desk.hear("DATA", 354);
        desk.hear(".", 250);
        Desk.due("second sender", desk.path(1, -1), "t@h");
        Desk.due("second recipient", desk.path(1, 0), "f@b");
        Desk.due("recipient(1, 1)", desk.post.recipient(1, 1), -1);
    }

    private static void takingText() {
        Desk.promise("promise 3, text");
        Desk desk = new Desk().openText("", "r@h");
        desk.hearAll(0, "QUIT", "..", "...", ".a", " .", ". ", "", "a.", "RSET");
        desk.hear(".", 250);
        Desk.due("text", desk.text(0), "QUIT\n.\n..\na\n .\n \n\na.\nRSET\n");
        desk.hear("DATA", 503);
        desk.hear("MAIL FROM:<>", 250);
        desk.hear("DATA", 503);
        desk.hear("RCPT TO:<r@h>", 250);
        desk.hear("DATA", 354);
        desk.hear(".", 250);
        Desk.due("a text that is at first empty", desk.text(1), "");
        Desk.due("parts of an empty text", desk.parts(1), "0/0/0/0");
    }

    private static void textLength() {
        Desk.promise("promise 3, too long");
        String[] eight = new String[8];
        java.util.Arrays.fill(eight, "x".repeat(72));
        Desk desk = new Desk().openText("", "r@h");
        desk.hearAll(0, eight);
        desk.hear("." + "y".repeat(15), 0);
        desk.hear(".", 250);
        Desk.due("the last place of a text of 600", desk.post.text(0, 599), 10);
        Desk.due("behind it", desk.post.text(0, 600), 0);
        desk.openText("", "r@h").hearAll(0, eight);
        desk.hear("y".repeat(16), 0);
        desk.hear(".", 552);
        Desk.due("state()", desk.post.state(), 2);
        desk.openText("", "r@h").hearAll(0, eight);
        desk.hearAll(0, "y".repeat(15), "");
        desk.hear(".", 552);
        desk.openText("", "r@h").hearAll(0, eight);
        desk.hearAll(0, "y".repeat(20), "z");
        desk.hear(".", 552);
        Desk.due("letters()", desk.post.letters(), 1);
        desk.send("", "r@h", "short");
        Desk.due("no number was given to a text too long", desk.numbers(), "0 1");
        Desk.due("text", desk.text(1), "short\n");
    }

    private static void states() {
        Desk.promise("promise 9");
        Desk desk = new Desk();
        told(desk, "RSET", 1);
        told(desk, "HELO -", 1);
        told(desk, "HELO h", 2);
        told(desk, "MAIL FROM:<>", 3);
        told(desk, "HELO h", 2);
        told(desk, "MAIL FROM:<>", 3);
        told(desk, "RSET", 2);
        told(desk, "MAIL FROM:<>", 3);
        told(desk, "DATA", 3);
        told(desk, "RCPT TO:<r@h>", 3);
        told(desk, "DATA", 4);
        told(desk, "QUIT", 4);
        told(desk, "..", 4);
        told(desk, ".", 2);
        told(desk, "MAIL FROM:<>", 3);
        told(desk, "QUIT", 1);
        told(desk, "HELO h", 2);
        desk.openText("", "r@h");
        desk.post.breakAfter(0);
        told(desk, ".", 0);
        desk.post.restart();
        Desk.due("state() after restart", desk.post.state(), 1);
    }

    private static void told(Desk desk, String line, int want) {
        desk.say(line);
        Desk.due("state() behind '" + line + "'", desk.post.state(), want);
    }
}
