/** One object under test, with calls in words and a tally of the answers that are not as due. */
final class Desk {
    private static int wrong = 0;
    private static int looked = 0;
    private static String promise = "";
    final CountedPost post = new CountedPost();

    static void promise(String name) {
        promise = name;
    }

    /** The document's sentence that the answers from here on belong to. */
    static void sentence(String written) {
        promise = '"' + written + '"';
    }

    static void due(String call, long got, long want) {
        looked++;
        if (got != want) {
            wrong++;
            System.out.println(promise + ": " + call + " answered " + got + ", due is " + want);
        }
    }

    static void due(String call, boolean got, boolean want) {
        due(call, got ? 1 : 0, want ? 1 : 0);
    }

    static void due(String call, String got, String want) {
        looked++;
        if (!got.equals(want)) {
            wrong++;
            System.out.println(promise + ": " + call + " answered '" + got + "', due is '" + want + "'");
        }
    }

    static void end() {
        System.out.println(wrong + " of " + looked + " answers are not as due");
        if (wrong != 0) {
            System.exit(1);
        }
    }

    static long packed(String characters) {
        long row = 0;
        for (int i = characters.length() - 1; i >= 0; i--) {
            row = row << 8 | characters.charAt(i);
        }
        return row;
    }

    boolean typeAll(String line) {
        boolean taken = true;
        for (int i = 0; i < line.length(); i += 8) {
            taken &= post.type(packed(line.substring(i, Math.min(line.length(), i + 8))));
        }
        return taken;
    }

    int say(String line) {
        typeAll(line);
        return post.enter();
    }

    void hear(String line, int want) {
        due("'" + line + "'", say(line), want);
    }

    void hearAll(int want, String... lines) {
        for (String line : lines) {
            hear(line, want);
        }
    }

    /** Leaves the session where it takes a text. */
    Desk openText(String sender, String... recipients) {
        hear("HELO h", 250);
        hear("MAIL FROM:<" + sender + ">", 250);
        for (String recipient : recipients) {
            hear("RCPT TO:<" + recipient + ">", 250);
        }
        hear("DATA", 354);
        return this;
    }

    /** Ends the text that is taken. */
    Desk sealed() {
        hear(".", 250);
        return this;
    }

    /** Letters with one line each, without a sender, to r@h. */
    Desk fill(int count) {
        for (int i = 0; i < count; i++) {
            send("", "r@h", "x");
        }
        return this;
    }

    Desk send(String sender, String recipient, String... lines) {
        openText(sender, recipient);
        hearAll(0, lines);
        hear(".", 250);
        return this;
    }

    String text(int m) {
        StringBuilder all = new StringBuilder();
        char c = post.text(m, 0);
        while (c != 0) {
            all.append(c);
            c = post.text(m, all.length());
        }
        return all.toString();
    }

    String path(int m, int r) {
        StringBuilder all = new StringBuilder();
        char c = post.path(m, r, 0);
        while (c != 0) {
            all.append(c);
            c = post.path(m, r, all.length());
        }
        return all.toString();
    }

    /** The numbers of the letters, in the order that letter(k) tells. */
    String numbers() {
        StringBuilder all = new StringBuilder();
        int number = post.letter(0);
        for (int k = 1; number != SpooledPost.NONE; k++) {
            all.append(k == 1 ? "" : " ").append(number);
            number = post.letter(k);
        }
        return all.toString();
    }

    /** Each part as depth, multipart or not, first line and number of lines. */
    String parts(int m) {
        StringBuilder all = new StringBuilder();
        int depth = post.part(m, 0, 0);
        for (int k = 0; depth != SpooledPost.NONE; k++) {
            all.append(k == 0 ? "" : " ").append(depth);
            for (int what = 1; what < 4; what++) {
                all.append("/").append(post.part(m, k, what));
            }
            depth = post.part(m, k + 1, 0);
        }
        return all.toString();
    }
}
