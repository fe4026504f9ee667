/** Promises 16 and 17: parts and part. */
public final class PartsTest {
    private static final String OPEN = "Content-Type:multipart/x;boundary=";

    public static void main(String[] args) {
        missing();
        heads();
        kinds();
        boundaries();
        borders();
        nesting();
        depths();
        numbers();
        severalLetters();
        Desk.end();
    }

    private static void told(String want, String... lines) {
        Desk desk = new Desk().send("", "r@h", lines);
        Desk.due(String.join("|", lines), desk.parts(0), want);
        int count = want.isEmpty() ? 0 : want.split(" ").length;
        Desk.due("parts of " + String.join("|", lines), desk.post.parts(0), count);
    }

    private static void plain(String... lines) {
        told("0/0/0/" + lines.length, lines);
    }

    private static void broken(String... lines) {
        told("", lines);
    }

    private static void missing() {
        Desk.promise("promises 16 and 17, none there");
        Desk desk = new Desk();
        Desk.due("parts(0)", desk.post.parts(0), -1);
        Desk.due("parts(-1)", desk.post.parts(-1), -1);
        Desk.due("part(-1, 0, 0)", desk.post.part(-1, 0, 0), -1);
        desk.send("", "r@h", "a:b");
        Desk.due("part(0, 0, 0)", desk.post.part(0, 0, 0), 0);
        Desk.due("part(0, 0, -1)", desk.post.part(0, 0, -1), -1);
        Desk.due("part(0, 0, 4)", desk.post.part(0, 0, 4), -1);
        Desk.due("part(0, 1, 0)", desk.post.part(0, 1, 0), -1);
        Desk.due("part(0, -1, 3)", desk.post.part(0, -1, 3), -1);
        Desk.due("part(0, MIN, 0)", desk.post.part(0, Integer.MIN_VALUE, 0), -1);
        Desk.due("part(0, 0, MAX)", desk.post.part(0, 0, Integer.MAX_VALUE), -1);
        Desk.due("part(1, 0, 0)", desk.post.part(1, 0, 0), -1);
        desk.post.reply(250);
        Desk.due("parts(0) of a gone letter", desk.post.parts(0), -1);
        Desk.due("part(0, 0, 0) of a gone letter", desk.post.part(0, 0, 0), -1);
    }

    private static void heads() {
        Desk.promise("promise 16, heads");
        plain();
        plain("");
        plain("", "no field", " nor this");
        plain("a:");
        plain("a-9Z:x", " goes on", "  on", "-: y", "", "body");
        plain("a:b", " ");
        plain("a:b", " ", "c:d");
        broken(" a:b");
        broken(" ");
        broken("a:b", "no field");
        broken(":a");
        broken("a b:c");
        broken("a :c");
        broken("a_b:c");
        broken("a");
        broken("a.b:c", "");
        broken("a:b", " on", "x", "", "body");
    }

    private static void kinds() {
        Desk.promise("promise 16, kinds");
        String[] tail = {"", "--b", "--b--"};
        multipart("content-type:multipart/boundary=b", tail);
        multipart("CONTENT-TYPE:   MULTIPART/mixed; BOUNDARY=b; c=d", tail);
        multipart("Content-Type: multipart/mixed; xboundary=b\"", tail);
        multipart("Content-Type:multipart/boundary=b boundary=c", tail);
        plainWith("Content-Type:multipart/x; boundary=", tail);
        plainWith("Content-Type:multipart/x; boundary=\"b\"", tail);
        plainWith("Content-Type:multipart/x; boundary= b", tail);
        plainWith("Content-Type:multipart/x; boundary==b boundary=b", tail);
        plainWith("Content-Type:multipart/x; boundary", tail);
        plainWith("Content-Type:multipart; boundary=b", tail);
        plainWith("Content-Type:multipart /boundary=b", tail);
        plainWith("Content-Type:text/multipart/boundary=b", tail);
        plainWith("Content-Type:boundary=b multipart/x", tail);
        plainWith("Content-Type:text/plain", tail);
        plainWith("Content-Type:", tail);
        plainWith("Xontent-Type:multipart/boundary=b", tail);
        plainWith("Content-Type:Xultipart/boundary=b", tail);
        plainWith("Content-Type:multipart/Xoundary=b", tail);
        plainWith("Content-Types:multipart/x;boundary=b", tail);
        plainWith("X-Content-Type:multipart/x;boundary=b", tail);
        plain("Content-Type:multipart/x;", " boundary=b", "", "--b", "--b--");
        plain("Content-Type:", " multipart/x;boundary=b", "", "--b", "--b--");
        plain("Content-Type:text/plain", OPEN + "b", "", "--b", "--b--");
        told("0/1/0/6 1/0/5/0", "a:b", OPEN + "b", "Content-Type:text/plain", "", "--b", "--b--");
        plain("a:b", " " + OPEN + "b", "", "--b", "--b--");
        plain("", OPEN + "b", "--b", "--b--");
    }

    private static void multipart(String field, String[] tail) {
        told("0/1/0/4 1/0/3/0", field, tail[0], tail[1], tail[2]);
    }

    private static void plainWith(String field, String[] tail) {
        plain(field, tail[0], tail[1], tail[2]);
    }

    private static void boundaries() {
        Desk.promise("promise 16, boundaries");
        String longest = "abcdefghij0123456789";
        told("0/1/0/4 1/0/3/0", OPEN + longest, "", "--" + longest, "--" + longest + "--");
        plain(OPEN + longest + "x", "", "--" + longest, "--" + longest + "--");
        told("0/1/0/4 1/0/3/0", OPEN + longest + "-x", "", "--" + longest, "--" + longest + "--");
        broken(OPEN + "b", "", "--B", "--B--");
        told("0/1/0/4 1/0/3/0", OPEN + "Bb", "", "--Bb", "--Bb--");
    }

    private static void borders() {
        Desk.promise("promises 16 and 17, borders");
        told("0/1/0/9 1/0/4/2 1/0/7/0", OPEN + "b", "", "before", "--b", "", "one", "--b", "--b--", "behind");
        told("0/1/0/7 1/0/3/0", OPEN + "b", "", "--b", "--b--", "--b", "x", "--b--");
        told("0/1/0/9 1/0/3/5", OPEN + "b", "", "--b", "", "--bb", "--b-", "--b ", "-b", "--b--");
        told("0/1/0/6 1/0/3/2", OPEN + "b", "", "--b", "", "--b---", "--b--");
        told("0/1/0/7 1/0/3/3", OPEN + "b", "", "--b", "", " --b", "--bb--", "--b--");
        told("0/1/0/10 1/0/3/6", OPEN + "b", "", "--b", "", "-xb", "x-b", "--b-x", "--bx-", "xxb", "--b--");
        told("0/1/0/8 1/0/3/4", OPEN + "b", "", "--b", "", "-", "--", "----", "--b--");
        broken(OPEN + "b");
        broken(OPEN + "b", "");
        broken(OPEN + "b", "--b", "--b--");
        broken(OPEN + "b", "", "--b");
        broken(OPEN + "b", "", "--b", "", "x");
        broken(OPEN + "b", "", "--b--");
        broken(OPEN + "b", "", "--b--", "--b", "--b--");
        broken(OPEN + "b", "", "--b", "no field", "--b--");
        broken(OPEN + "b", "", "--b", "", "--b", "no field", "--b--");
        told("0/1/0/7 1/0/3/1 1/0/5/1", OPEN + "b", "", "--b", "x:y", "--b", "x:z", "--b--");
    }

    private static void nesting() {
        Desk.promise("promises 16 and 17, nesting");
        told("0/1/0/13 1/1/3/7 2/0/6/2 2/0/9/0 1/0/11/1",
            OPEN + "b", "", "--b", OPEN + "c", "", "--c", "", "deep", "--c", "--c--", "--b", "", "--b--");
        broken(OPEN + "b", "", "--b", OPEN + "c", "", "--c", "--b", "--c--", "--b--");
        broken(OPEN + "b", "", "--b", OPEN + "b", "", "--b", "--b--", "--b--");
        broken(OPEN + "b", "", "--b", OPEN + "c", "", "--c--", "--b--");
        broken(OPEN + "b", "", "--b", OPEN + "c", "", "--c", "bad", "--c--", "--b--");
        told("0/1/0/8 1/0/3/4", OPEN + "b", "", "--b", "", OPEN + "c", "", "--c", "--b--");
    }

    /** A letter with multiparts one in another, the innermost part empty and as deep as told. */
    private static String[] nested(int depth) {
        String[] lines = new String[depth * 4];
        for (int i = 0; i < depth; i++) {
            lines[i * 3] = "Content-Type:multipart/boundary=" + i;
            lines[i * 3 + 1] = "";
            lines[i * 3 + 2] = "--" + i;
            lines[depth * 4 - 1 - i] = "--" + i + "--";
        }
        return lines;
    }

    private static void depths() {
        Desk.promise("promises 16 and 17, depth");
        told("0/1/0/4 1/0/3/0", nested(1));
        told("0/1/0/16 1/1/3/12 2/1/6/8 3/1/9/4 4/0/12/0", nested(4));
        broken(nested(5));
        broken(nested(6));
    }

    private static void numbers() {
        Desk.promise("promises 16 and 17, how many");
        Desk most = new Desk().send("", "r@h", row(15));
        Desk.due("parts of 1 and 15", most.post.parts(0), 16);
        Desk.due("first line of the last", most.post.part(0, 15, 2), 17);
        Desk.due("behind the last", most.post.part(0, 16, 0), -1);
        broken(row(16));
        broken(row(40));
    }

    private static String[] row(int parts) {
        String[] lines = new String[parts + 3];
        java.util.Arrays.fill(lines, "--b");
        lines[0] = OPEN + "b";
        lines[1] = "";
        lines[parts + 2] = "--b--";
        return lines;
    }

    /** One letter's parts must not stay behind for another one's. */
    private static void severalLetters() {
        Desk.promise("promises 16 and 17, several letters");
        Desk desk = new Desk();
        desk.send("", "r@h", OPEN + "b", "", "--b", "--b--").send("", "r@h", "broken").send("", "r@h", "a:b");
        for (int i = 0; i < 2; i++) {
            Desk.due("parts of 0", desk.parts(0), "0/1/0/4 1/0/3/0");
            Desk.due("parts of 1", desk.parts(1), "");
            Desk.due("parts of 2", desk.parts(2), "0/0/0/1");
        }
        desk.post.reply(250);
        desk.send("", "r@h", "", "x", "y");
        Desk.due("parts of 3", desk.parts(3), "0/0/0/3");
        Desk.due("parts(0) when it is gone", desk.post.parts(0), -1);
    }
}
