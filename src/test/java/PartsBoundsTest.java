import java.util.ArrayList;
import java.util.Collections;
import java.util.List;

/** The bounds of heads, kinds, borders and parts: one test for each sentence that names one. */
public final class PartsBoundsTest {
    private static final int LEAST = Integer.MIN_VALUE;
    private static final int MOST = Integer.MAX_VALUE;
    private static final String OPEN = "Content-Type:multipart/x;boundary=";
    private static final String ONE_PART = "0/1/0/4 1/0/3/0";

    public static void main(String[] args) {
        noLines();
        headUpToTheEmptyLine();
        headOfAllLines();
        fieldNames();
        fieldWithAnything();
        linesThatGoOn();
        firstKindField();
        nameOfTheKindField();
        blanksBehindTheColon();
        thatLineAlone();
        beginsWithMultipart();
        boundaryBehindThat();
        firstSuchPlace();
        boundaryLengths();
        boundaryCharacters();
        noSuchField();
        borders();
        lastBorders();
        partsBetweenBorders();
        beforeAndBehind();
        withoutALastBorder();
        lastBorderBeforeAnyBorder();
        fourDeep();
        brokenAtAnyDepth();
        sixteenParts();
        numberedInOrder();
        partsOfNoLetter();
        partArguments();
        longestText();
        Desk.end();
    }

    private static void told(String want, String... lines) {
        Desk desk = new Desk().openText("", "r@h");
        for (String line : lines) {
            desk.hear(line.startsWith(".") ? "." + line : line, 0);
        }
        desk.sealed();
        String written = String.join("|", lines);
        Desk.due("parts(0) of " + written, desk.post.parts(0), want.isEmpty() ? 0 : want.split(" ").length);
        Desk.due("part(0, ..) of " + written, desk.parts(0), want);
    }

    private static void plain(String... lines) {
        told("0/0/0/" + lines.length, lines);
    }

    private static void broken(String... lines) {
        told("", lines);
    }

    /** The kind of a letter whose head is these lines, told by a body that is right for the boundary. */
    private static void multipart(String boundary, String... head) {
        int first = head.length + 2;
        told("0/1/0/" + (first + 1) + " 1/0/" + first + "/0", with(boundary, head));
    }

    private static void plainHead(String boundary, String... head) {
        plain(with(boundary, head));
    }

    private static String[] with(String boundary, String... head) {
        String[] lines = java.util.Arrays.copyOf(head, head.length + 3);
        lines[head.length] = "";
        lines[head.length + 1] = "--" + boundary;
        lines[head.length + 2] = "--" + boundary + "--";
        return lines;
    }

    private static void noLines() {
        Desk.sentence("The HEAD of a row of lines goes up to its first empty line, or is all of them; the BODY is what comes behind that line");
        plain();
        told(ONE_PART, OPEN + "b", "", "--b", "--b--");
    }

    private static void headUpToTheEmptyLine() {
        Desk.sentence("The HEAD of a row of lines goes up to its first empty line");
        plain("");
        plain("", "");
        plain("", "no field");
        plain("", " goes on with nothing");
        plain("a:b", "", "no field");
        plain("a:b", "", "", "no field");
        plain("", OPEN + "b", "", "--b", "--b--");
        broken("no field", "");
        broken("a:b", "no field", "", "c:d");
    }

    private static void headOfAllLines() {
        Desk.sentence("or is all of them");
        plain("a:b");
        plain("a:b", "c:d", " on");
        broken("a:b", "c:d", "no field");
        broken("no field");
        broken(OPEN + "b");
        broken(OPEN + "b", "--b", "--b--");
    }

    private static void fieldNames() {
        Desk.sentence("a FIELD (a NAME of one or more letters, digits and -, a : and anything)");
        for (char c = 32; c <= 126; c++) {
            String one = String.valueOf(c);
            boolean isOfName = one.matches("[A-Za-z0-9-]");
            if (isOfName) {
                plain(one + ":x");
                plain("x" + one + ":");
            } else {
                broken(one + ":x");
            }
            if (!isOfName && c != ':') {
                broken("x" + one + ":");
            }
        }
        broken(":");
        broken(":x");
        broken("x");
        broken("-");
        plain("-:");
        plain("x".repeat(71) + ":");
        broken("x".repeat(72));
    }

    private static void fieldWithAnything() {
        Desk.sentence("a : and anything");
        plain("a:");
        plain("a::");
        plain("a: ");
        plain("a:" + " ".repeat(70));
        plain("a:b:c no field @ all");
    }

    private static void linesThatGoOn() {
        Desk.sentence("or begins with a blank and has a line before it in the head");
        broken(" ");
        broken(" a:b");
        broken(" a:b", "c:d");
        plain("a:b", " ");
        plain("a:b", " c", " d", "  ", "e:f", " g");
        broken(OPEN + "b", "", "--b", " a:b", "--b--");
        told("0/1/0/6 1/0/3/2", OPEN + "b", "", "--b", "a:b", " c", "--b--");
        told("0/1/0/6 1/0/3/2", OPEN + "b", "", "--b", "", " c", "--b--");
    }

    private static void firstKindField() {
        Desk.sentence("is told by its first field with the name content-type");
        multipart("b", OPEN + "b", OPEN + "c");
        multipart("b", "a:b", OPEN + "b", "Content-Type:text/plain");
        plainHead("b", "Content-Type:text/plain", OPEN + "b");
        plainHead("b", "Content-Type:", OPEN + "b");
        plainHead("b", OPEN, OPEN + "b");
    }

    private static void nameOfTheKindField() {
        Desk.sentence("content-type, capital and small letters alike");
        multipart("b", "content-type:multipart/boundary=b");
        multipart("b", "CONTENT-TYPE:multipart/boundary=b");
        multipart("b", "cOnTeNt-TyPe:multipart/boundary=b");
        plainHead("b", "ontent-type:multipart/boundary=b");
        plainHead("b", "xcontent-type:multipart/boundary=b");
        plainHead("b", "content-typ:multipart/boundary=b");
        plainHead("b", "content-typex:multipart/boundary=b");
        plainHead("b", "contenttype:multipart/boundary=b");
        plainHead("b", "content-type-:multipart/boundary=b");
        plainHead("b", "a:content-type:multipart/boundary=b");
        broken("content-type :multipart/boundary=b", "", "--b", "--b--");
        broken("content_type:multipart/boundary=b", "", "--b", "--b--");
    }

    private static void blanksBehindTheColon() {
        Desk.sentence("blanks behind the : are left out");
        multipart("b", "content-type: multipart/boundary=b");
        multipart("b", "content-type:" + " ".repeat(39) + "multipart/boundary=b");
        plainHead("b", "content-type:" + " ".repeat(59));
        plainHead("b", "content-type::multipart/boundary=b");
    }

    private static void thatLineAlone() {
        Desk.sentence("by that line alone");
        plainHead("b", "content-type:", " multipart/boundary=b");
        plainHead("b", "content-type:multipart/", " boundary=b");
        plainHead("b", "content-type:multipart/boundary=", " b");
        plainHead("b", "content-type:multipart/boundary", " =b");
        multipart("b", "content-type:multipart/boundary=b", " c");
        plainHead("b", "a:b", " content-type:multipart/boundary=b");
    }

    private static void beginsWithMultipart() {
        Desk.sentence("when what follows begins with multipart/ (capital and small letters alike)");
        multipart("b", "content-type:MULTIPART/boundary=b");
        multipart("b", "content-type:mUlTiPaRt/boundary=b");
        plainHead("b", "content-type:multipart boundary=b");
        plainHead("b", "content-type:multipart /boundary=b");
        plainHead("b", "content-type:xmultipart/boundary=b");
        plainHead("b", "content-type:ultipart/boundary=b");
        plainHead("b", "content-type:\"multipart/boundary=b\"");
        plainHead("b", "content-type:text/multipart/boundary=b");
        plainHead("b", "content-type:multipart");
        plainHead("b", "content-type:multipart/");
    }

    private static void boundaryBehindThat() {
        Desk.sentence("and boundary= (likewise) stands somewhere behind that");
        multipart("b", "content-type:multipart/BOUNDARY=b");
        multipart("b", "content-type:multipart/bOuNdArY=b");
        multipart("b", "content-type:multipart/xboundary=b");
        multipart("b", "content-type:multipart/mixed; charset=x; boundary=b; more=y");
        multipart("b", "content-type:multipart/" + " ".repeat(26) + "boundary=b");
        plainHead("b", "content-type:boundary=b;multipart/");
        plainHead("b", "content-type:multipart/boundary");
        plainHead("b", "content-type:multipart/boundary b");
        plainHead("b", "content-type:multipart/oundary=b");
        plainHead("b", "content-type:multipart/bound ary=b");
    }

    private static void firstSuchPlace() {
        Desk.sentence("and behind the first such place");
        multipart("b", "content-type:multipart/boundary=b boundary=c");
        multipart("boundary", "content-type:multipart/boundary=boundary=c");
        plainHead("b", "content-type:multipart/boundary= boundary=b");
        plainHead("b", "content-type:multipart/boundary==boundary=b");
        plainHead("b", "content-type:multipart/boundary=\"b\" boundary=b");
    }

    private static void boundaryLengths() {
        Desk.sentence("1 to 20 letters and digits follow one another (no more of them)");
        for (int length = 1; length <= 20; length++) {
            multipart("b".repeat(length), OPEN + "b".repeat(length));
        }
        multipart("b".repeat(20), OPEN + "b".repeat(20) + ";");
        multipart("b".repeat(20), OPEN + "b".repeat(20) + " " + "b");
        plainHead("b", OPEN);
        plainHead("b".repeat(20), OPEN + "b".repeat(21));
        plainHead("b".repeat(21), OPEN + "b".repeat(21));
        plainHead("b".repeat(22), OPEN + "b".repeat(22));
        plainHead("b".repeat(20), OPEN + "b".repeat(21) + ";");
    }

    private static void boundaryCharacters() {
        Desk.sentence("letters and digits follow one another");
        for (char c = 32; c <= 126; c++) {
            String one = String.valueOf(c);
            if (one.matches("[A-Za-z0-9]")) {
                multipart("b" + one, OPEN + "b" + one);
                multipart(one, OPEN + one);
            } else {
                multipart("b", OPEN + "b" + one);
                multipart("b", OPEN + "b" + one + "c");
                plainHead("b", OPEN + one);
                plainHead("b", OPEN + one + "b");
            }
        }
    }

    private static void noSuchField() {
        Desk.sentence("otherwise, and when there is no such field, it is PLAIN");
        plainHead("b");
        plainHead("b", "a:multipart/boundary=b");
        plainHead("b", "content-type:text/plain;boundary=b");
    }

    private static void borders() {
        Desk.sentence("In the body of a multipart a line is a BORDER when it is -- and the boundary");
        String[] none = {"-b", "-xb", "x-b", "xxb", "---b", "--", "--b-x", "--bx-", "--bb", "--b ", " --b", "--B", "--b-", "b", "--c", "--b---", "--b--x", "--b -- ", "-- b"};
        for (String line : none) {
            told("0/1/0/6 1/0/3/2", OPEN + "b", "", "--b", "", line, "--b--");
        }
        told("0/1/0/6 1/0/3/1 1/0/5/0", OPEN + "b", "", "--b", "", "--b", "--b--");
        broken(OPEN + "b", "", "--B", "--b--");
        told("0/1/0/7 1/0/6/0", OPEN + "Bc", "", "--bc", "--BC", "--bC", "--Bc", "--Bc--");
    }

    private static void lastBorders() {
        Desk.sentence("and the LAST BORDER when it is that and -- behind it (the first such one)");
        told(ONE_PART, OPEN + "b", "", "--b", "--b--");
        told("0/1/0/5 1/0/3/0", OPEN + "b", "", "--b", "--b--", "--b--");
        told("0/1/0/6 1/0/3/0", OPEN + "b", "", "--b", "--b--", "--b", "--b--");
        String[] none = {"--b-", "--b-x", "--bx-", "-xb--", "x-b--", "--b---", "--B--", " --b--", "--b-- ", "--b--x", "--bb--", "--c--", "-b--", "--b- -", "--b -"};
        for (String line : none) {
            broken(OPEN + "b", "", "--b", "", line);
        }
    }

    private static void partsBetweenBorders() {
        Desk.sentence("The rows of lines between two borders next to each other, and between the one before the last border and that, are its parts, in order");
        told("0/1/0/6 1/0/3/0 1/0/4/0 1/0/5/0", OPEN + "b", "", "--b", "--b", "--b", "--b--");
        told("0/1/0/10 1/0/3/1 1/0/5/2 1/0/8/1", OPEN + "b", "", "--b", "a:b", "--b", "", "x", "--b", "", "--b--");
    }

    private static void beforeAndBehind() {
        Desk.sentence("what stands before the first border, and behind the last one, belongs to none");
        told("0/1/0/8 1/0/5/0", OPEN + "b", "", "no field", " ", "--b", "--b--", "no field", " ");
        told("0/1/0/10 1/0/5/0", OPEN + "b", "", OPEN + "c", "", "--b", "--b--", OPEN + "c", "", "--c", "--b");
        told("0/1/0/5 1/0/4/0", OPEN + "b", "", "", "--b", "--b--");
    }

    private static void withoutALastBorder() {
        Desk.sentence("without a last border it is BROKEN");
        broken(OPEN + "b");
        broken(OPEN + "b", "");
        broken(OPEN + "b", "", "");
        broken(OPEN + "b", "", "--b");
        broken(OPEN + "b", "", "--b", "--b");
        broken(OPEN + "b", "", "--b", "", "x");
        broken("a:b", OPEN + "b", "--b", "--b--");
    }

    private static void lastBorderBeforeAnyBorder() {
        Desk.sentence("so it is when the first last border stands before any border");
        broken(OPEN + "b", "", "--b--");
        broken(OPEN + "b", "", "--b--", "--b");
        broken(OPEN + "b", "", "--b--", "--b", "--b--");
        broken(OPEN + "b", "", "x", "--b--", "--b", "", "--b--");
        told(ONE_PART, OPEN + "b", "", "--b", "--b--");
    }

    /** Multiparts one in another; the innermost part has these lines and the depth told. */
    private static String[] nested(int depth, String... inner) {
        List<String> lines = new ArrayList<>();
        for (int i = 0; i < depth; i++) {
            Collections.addAll(lines, "Content-Type:multipart/boundary=" + i, "", "--" + i);
        }
        Collections.addAll(lines, inner);
        for (int i = depth - 1; i >= 0; i--) {
            lines.add("--" + i + "--");
        }
        return lines.toArray(new String[0]);
    }

    private static void fourDeep() {
        Desk.sentence("when the parts are one in another more than 4 deep (the letter is at depth 0, a part one deeper than what it is in)");
        told("0/0/0/0", nested(0));
        told(ONE_PART, nested(1));
        told("0/1/0/8 1/1/3/4 2/0/6/0", nested(2));
        told("0/1/0/12 1/1/3/8 2/1/6/4 3/0/9/0", nested(3));
        told("0/1/0/16 1/1/3/12 2/1/6/8 3/1/9/4 4/0/12/0", nested(4));
        broken(nested(5));
        broken(nested(6));
        broken(nested(7));
        told("0/1/0/18 1/1/3/14 2/1/6/10 3/1/9/6 4/0/12/1 4/0/14/0", nested(4, "", "--3"));
        broken(nested(4, "Content-Type:multipart/boundary=x", "", "--x", "--x--"));
        broken(nested(4, "Content-Type:multipart/boundary=x", "", "x"));
    }

    private static void brokenAtAnyDepth() {
        Desk.sentence("A letter is BROKEN when it, or a part in it, at any depth, has a head that is not right, or is a broken multipart");
        for (int depth = 0; depth <= 4; depth++) {
            broken(nested(depth, "no field"));
            broken(nested(depth, " a:b"));
            broken(nested(depth, OPEN + "x", ""));
            broken(nested(depth, OPEN + "x", "", "--x"));
            broken(nested(depth, OPEN + "x", "", "--x--"));
            Desk desk = new Desk().send("", "r@h", nested(depth, "a:b"));
            Desk.due("parts(0)", desk.post.parts(0), depth + 1);
        }
        broken(OPEN + "b", "", "--b", "", "--b", "no field", "--b", "", "--b--");
    }

    private static String[] rowOfParts(int parts) {
        String[] lines = new String[parts + 3];
        java.util.Arrays.fill(lines, "--b");
        lines[0] = OPEN + "b";
        lines[1] = "";
        lines[parts + 2] = "--b--";
        return lines;
    }

    private static void sixteenParts() {
        Desk.sentence("or when it has more than 16 parts, itself counted");
        for (int parts = 1; parts <= 18; parts++) {
            Desk desk = new Desk().send("", "r@h", rowOfParts(parts));
            boolean isBroken = parts + 1 > 16;
            Desk.due("parts(0) of " + parts, desk.post.parts(0), isBroken ? 0 : parts + 1);
            Desk.due("first line of the last part", desk.post.part(0, parts, 2), isBroken ? -1 : parts + 2);
            Desk.due("the letter itself", desk.post.part(0, 0, 1), isBroken ? -1 : 1);
            Desk.due("behind the last part", desk.post.part(0, parts + 1, 0), -1);
        }
        broken(rowOfParts(40));
        sixteenPartsOneInAnother();
    }

    private static void sixteenPartsOneInAnother() {
        for (int inner = 12; inner <= 14; inner++) {
            List<String> lines = new ArrayList<>();
            Collections.addAll(lines, OPEN + "b", "", "--b", OPEN + "c", "");
            for (int i = 0; i < inner; i++) {
                lines.add("--c");
            }
            Collections.addAll(lines, "--c--", "--b", "--b--");
            Desk desk = new Desk().send("", "r@h", lines.toArray(new String[0]));
            Desk.due("parts(0) with " + inner + " inner ones", desk.post.parts(0), inner + 3 <= 16 ? inner + 3 : 0);
            Desk.due("depth of the last one", desk.post.part(0, inner + 2, 0), inner + 3 <= 16 ? 1 : -1);
        }
    }

    private static void numberedInOrder() {
        Desk.sentence("PARTS of a letter that is not broken are numbered from 0: the letter itself; behind a multipart its first part, then all that is in that, then its second part, and so on");
        told("0/1/0/17 1/1/3/6 2/0/6/0 2/0/7/1 1/0/10/1 1/1/12/4 2/0/15/0",
            OPEN + "b", "", "--b", OPEN + "c", "", "--c", "--c", "", "--c--", "--b", "", "--b", OPEN + "d", "", "--d", "--d--",
            "--b--");
    }

    private static void partsOfNoLetter() {
        Desk.sentence("How many parts letter m has; 0 when it is broken; NONE when there is no such letter with a seal");
        Desk desk = new Desk().send("", "r@h", "a:b").send("", "r@h", "broken").send("", "r@h", rowOfParts(15));
        desk.post.reply(250);
        desk.openText("", "r@h").hear("a:b", 0);
        desk.post.breakAfter(1);
        desk.hear(".", 0);
        int[] none = {-1, 0, 3, 4, 6, LEAST, MOST};
        for (int m : none) {
            Desk.due("parts(" + m + ")", desk.post.parts(m), -1);
            Desk.due("part(" + m + ", 0, 0)", desk.post.part(m, 0, 0), -1);
        }
        Desk.due("parts(1)", desk.post.parts(1), 0);
        Desk.due("part(1, 0, 0)", desk.post.part(1, 0, 0), -1);
        Desk.due("parts(2)", desk.post.parts(2), 16);
    }

    private static void partArguments() {
        Desk.sentence("NONE when there is none, or what is not 0 .. 3");
        Desk desk = new Desk().send("", "r@h", rowOfParts(15)).send("", "r@h", "a:b");
        int[] noParts = {-1, 16, 17, LEAST, MOST, 1 << 30};
        for (int k : noParts) {
            for (int what = 0; what < 4; what++) {
                Desk.due("part(0, " + k + ", " + what + ")", desk.post.part(0, k, what), -1);
            }
        }
        int[] noFacts = {-1, 4, 5, LEAST, MOST, 1 << 30};
        for (int what : noFacts) {
            Desk.due("part(0, 0, " + what + ")", desk.post.part(0, 0, what), -1);
            Desk.due("part(0, 15, " + what + ")", desk.post.part(0, 15, what), -1);
            Desk.due("part(1, 0, " + what + ")", desk.post.part(1, 0, what), -1);
        }
        int[] last = {1, 0, 17, 0};
        for (int what = 0; what < 4; what++) {
            Desk.due("part(0, 15, " + what + ")", desk.post.part(0, 15, what), last[what]);
            Desk.due("part(1, 1, " + what + ")", desk.post.part(1, 1, what), -1);
        }
    }

    private static void longestText() {
        Desk.sentence("the number, from 0, of its first line among the lines of the text (2), and how many lines it has (3)");
        Desk desk = new Desk().openText("", "r@h");
        desk.hearAll(0, "Content-Type:multipart/boundary=b", "", "--b", "");
        int left = 600 - 34 - 1 - 4 - 1 - 6;
        for (; left >= 73; left -= 73) {
            desk.hear("x".repeat(72), 0);
        }
        desk.hear("x".repeat(left - 1), 0);
        desk.hear("--b--", 0);
        desk.sealed();
        Desk.due("the last place", desk.post.text(0, 599), 10);
        Desk.due("parts", desk.parts(0), "0/1/0/13 1/0/3/9");
    }
}
