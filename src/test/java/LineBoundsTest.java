/** The bounds of a line, of its characters, of domains and of paths: one test for each sentence that names one. */
public final class LineBoundsTest {
    private static final String LONGEST_DOMAIN = "d2345678901234567890123456789012";

    public static void main(String[] args) {
        mostCalls();
        longestLine();
        codes();
        letters();
        eightAtMost();
        firstZero();
        lineWithoutRoom();
        behindTheLineThatIsBegun();
        newLineIsEmpty();
        labelsWithDots();
        longestDomain();
        labels();
        localAndDomain();
        longestPath();
        atoms();
        Desk.end();
    }

    private static void mostCalls() {
        Desk.sentence("An object is used for at most 512 calls after it has been made");
        Desk clock = new Desk();
        int now = 0;
        while (clock.post.calls() < CountedPost.MOST_CALLS) {
            now += 1000;
            Desk.due("pass(1000)", clock.post.pass(1000), now);
        }
        Desk.due("time at the last call", now, 512000);
        Desk desk = new Desk().fill(6);
        while (desk.post.calls() < CountedPost.MOST_CALLS - 1) {
            Desk.due("text(5, 0)", desk.post.text(5, 0), 'x');
        }
        Desk.due("reply(200) as the last call", desk.post.reply(200), 1);
    }

    private static void longestLine() {
        Desk.sentence("A LINE is at most 72 characters");
        Desk desk = new Desk().openText("", "r@h");
        Desk.due("an empty line", desk.post.enter(), 0);
        Desk.due("72 characters", desk.typeAll("a".repeat(72)), true);
        Desk.due("one more", desk.post.type('b'), false);
        desk.post.enter();
        desk.sealed();
        Desk.due("text", desk.text(0), "\n" + "a".repeat(72) + "\n");
        longestLineAsCommand();
    }

    private static void longestLineAsCommand() {
        Desk desk = new Desk();
        Desk.due("72 characters", desk.typeAll("NOOP" + " ".repeat(68)), true);
        Desk.due("one more", desk.post.type(' '), false);
        Desk.due("enter()", desk.post.enter(), 501);
        desk.hear("N".repeat(72), 500);
        desk.hear("NOOP", 250);
    }

    private static void codes() {
        Desk.sentence("of the codes 32 to 126");
        for (int code = 1; code < 256; code++) {
            boolean isCharacter = code >= 32 && code <= 126;
            Desk desk = new Desk();
            Desk.due("type(" + code + ")", desk.post.type(code), isCharacter);
            Desk.due("behind seven", desk.post.type((long) code << 56 | 0x41414141414141L), isCharacter);
            Desk.due("before one", desk.post.type(0x4100 | code), isCharacter);
        }
        allCodesAreKept();
    }

    private static void allCodesAreKept() {
        Desk desk = new Desk().openText("", "r@h");
        StringBuilder all = new StringBuilder();
        for (int first = 32; first <= 126; first += 48) {
            for (int code = first; code < first + 48 && code <= 126; code++) {
                desk.post.type(code);
                all.append((char) code);
            }
            desk.post.enter();
            all.append('\n');
        }
        desk.sealed();
        Desk.due("text", desk.text(0), all.toString());
    }

    private static void letters() {
        Desk.sentence("LETTERS are a to z and A to Z");
        Desk desk = new Desk();
        desk.hearAll(250, "HELO a", "HELO z", "HELO A", "HELO Z", "HELO m", "HELO M");
        desk.hearAll(501, "HELO `", "HELO {", "HELO @", "HELO [");
        Desk.sentence("letters, digits and -");
        desk.hearAll(250, "HELO 0", "HELO 9", "HELO 5", "HELO a-a");
        desk.hearAll(501, "HELO /", "HELO :", "HELO a,a", "HELO a/a", "HELO a_a", "HELO a+a");
    }

    private static void eightAtMost() {
        Desk.sentence("the lowest 8 bits of row, the next 8, and so on, up to the first that are 0, eight at most");
        Desk desk = new Desk();
        Desk.due("four", desk.post.type(0x504F4F4EL), true);
        Desk.due("enter()", desk.post.enter(), 250);
        Desk.due("eight", desk.post.type(0x6820204F4C4548L | 0x21L << 56), true);
        Desk.due("enter()", desk.post.enter(), 501);
        Desk.due("eight that are right", desk.post.type(Desk.packed("HELO a.b")), true);
        Desk.due("enter()", desk.post.enter(), 250);
        Desk.due("none", desk.post.type(0), true);
        Desk.due("enter() of an empty line", desk.post.enter(), 500);
    }

    private static void firstZero() {
        Desk.sentence("up to the first that are 0");
        Desk desk = new Desk();
        Desk.due("the lowest are 0", desk.post.type(0xFFFFFFFFFFFFFF00L), true);
        Desk.due("the least long", desk.post.type(Long.MIN_VALUE), true);
        for (int i = 0; i < 4; i++) {
            Desk.due("a character, a 0, no character", desk.post.type(0x1F0000L | "NOOP".charAt(i)), true);
        }
        Desk.due("enter()", desk.post.enter(), 250);
        Desk.due("all bits", desk.post.type(-1L), false);
        Desk.due("the greatest long", desk.post.type(Long.MAX_VALUE), false);
        Desk.due("the highest 8 alone are none", desk.post.type(0x8041414141414141L), false);
        Desk.due("the highest 8 are 0", desk.post.type(0x0041414141414141L), true);
    }

    private static void lineWithoutRoom() {
        Desk.sentence("false, refused, when one is none of the characters, there would be more than 72");
        for (int begun = 64; begun <= 72; begun++) {
            Desk desk = new Desk().openText("", "r@h");
            desk.typeAll("a".repeat(begun));
            int room = 72 - begun;
            if (room < 8) {
                Desk.due("one too many", desk.post.type(Desk.packed("b".repeat(room + 1))), false);
                Desk.due("eight", desk.post.type(Desk.packed("b".repeat(8))), false);
            }
            Desk.due("as many as have room", desk.post.type(Desk.packed("c".repeat(room))), true);
            Desk.due("none into a full line", desk.post.type(0), true);
            Desk.due("one into a full line", desk.post.type('d'), false);
            desk.post.enter();
            desk.sealed();
            Desk.due("text", desk.text(0), "a".repeat(begun) + "c".repeat(room) + "\n");
        }
    }

    private static void behindTheLineThatIsBegun() {
        Desk.sentence("Puts characters behind the line that is begun");
        Desk desk = new Desk().fill(2);
        Desk.due("type(NO)", desk.post.type(Desk.packed("NO")), true);
        desk.post.reply(250);
        desk.post.pass(1);
        desk.post.breakAfter(20);
        Desk.due("type(O)", desk.post.type('O'), true);
        desk.post.reply(550);
        desk.post.restart();
        Desk.due("type(P)", desk.post.type('P'), true);
        Desk.due("enter()", desk.post.enter(), 250);
    }

    private static void newLineIsEmpty() {
        Desk.sentence("The line ends, and a new one begins, empty");
        Desk desk = new Desk();
        for (String line : new String[] {"NOOP", "NOOP x", "VRFY", "MAIL FROM:<>", "x".repeat(72)}) {
            desk.say(line);
            Desk.due("enter() behind '" + line + "'", desk.post.enter(), 500);
            desk.hear("NOOP", 250);
        }
        desk.openText("", "r@h").hear("y".repeat(72), 0);
        Desk.due("enter()", desk.post.enter(), 0);
        Desk.due("72 characters again", desk.typeAll("z".repeat(72)), true);
        desk.post.enter();
        desk.sealed();
        Desk.due("text", desk.text(0), "y".repeat(72) + "\n\n" + "z".repeat(72) + "\n");
        Desk.due("enter() behind a text", desk.post.enter(), 500);
    }

    private static void labelsWithDots() {
        Desk.sentence("A DOMAIN is one or more LABELS with . between them");
        Desk desk = new Desk();
        desk.hearAll(250, "HELO a", "EHLO a.b", "HELO a.b.c.d.e.f.g.h.i.j.k.l.m.n.o.p");
        desk.hearAll(501, "HELO ", "HELO .", "HELO ..", "HELO .a", "HELO a.", "HELO a..b", "EHLO .a.b", "EHLO a.b.");
    }

    private static void longestDomain() {
        Desk.sentence("A DOMAIN is one or more LABELS with . between them, at most 32 characters in all");
        Desk desk = new Desk();
        desk.hear("HELO " + LONGEST_DOMAIN, 250);
        desk.hear("HELO " + LONGEST_DOMAIN + "x", 501);
        desk.hear("HELO a.b-c.d23456789012345678901234.x", 250);
        desk.hear("HELO a.b-c.d23456789012345678901234.xy", 501);
        desk.hear("HELO " + "x".repeat(67), 501);
        desk.hear("MAIL FROM:<a@" + LONGEST_DOMAIN + ">", 250);
        desk.hear("RCPT TO:<a@" + LONGEST_DOMAIN + "x>", 501);
        desk.hear("RCPT TO:<a@" + LONGEST_DOMAIN + ">", 250);
    }

    private static void labels() {
        Desk.sentence("a label is one or more letters, digits and -, its first and last are no -");
        Desk desk = new Desk();
        desk.hearAll(250, "HELO a-b", "HELO a--b", "HELO 1-2.3-4", "HELO a.b-c", "HELO x");
        desk.hearAll(501, "HELO -", "HELO --", "HELO -a", "HELO a-", "HELO a.-b", "HELO a-.b", "HELO a.-", "HELO -.a", "HELO a.-.b");
    }

    private static void localAndDomain() {
        Desk.sentence("A PATH is a LOCAL part, @ and a domain");
        paths(250, "a@b", "a.b@c.d");
        paths(501, "a", "@", "a@", "@b", "a@@b", "a@b@c", "ab", "a.b");
    }

    private static void longestPath() {
        Desk.sentence("A PATH is a LOCAL part, @ and a domain, at most 40 characters in all");
        paths(250, "l23456@" + LONGEST_DOMAIN, "l234567@" + LONGEST_DOMAIN, "l".repeat(38) + "@d", "l.".repeat(18) + "l@d");
        paths(501, "l2345678@" + LONGEST_DOMAIN, "l".repeat(39) + "@d", "l".repeat(38) + "@dd", "l".repeat(55) + "@d");
        keptWhole();
    }

    private static void keptWhole() {
        String longest = "l234567@" + LONGEST_DOMAIN;
        Desk desk = new Desk().openText(longest, longest).sealed();
        Desk.due("sender", desk.path(0, -1), longest);
        Desk.due("recipient", desk.path(0, 0), longest);
    }

    private static void atoms() {
        Desk.sentence("a local part is one or more ATOMS with . between them, an atom one or more letters, digits and - _ +");
        paths(250, "-@b", "_@b", "+@b", "0@b", "9@b", "Z.z@b", "-.-@b", "a-@b", "-a@b", "a.b.c@b");
        paths(501, ".@b", ".a@b", "a.@b", "a..b@b", " @b", "a a@b", "a,@b", "a*@b", "a/@b", "a:@b", "a^@b", "a`@b", "a[@b", "a{@b");
    }

    private static void paths(int want, String... paths) {
        for (String path : paths) {
            Desk desk = new Desk();
            desk.hear("HELO h", 250);
            desk.hear("MAIL FROM:<" + path + ">", want);
            desk.hear("RSET", 250);
            desk.hear("MAIL FROM:<>", 250);
            desk.hear("RCPT TO:<" + path + ">", want);
        }
    }
}
