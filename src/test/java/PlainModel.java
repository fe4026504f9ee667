import java.util.ArrayList;
import java.util.List;
import java.util.Locale;
import java.util.Map;
import java.util.TreeMap;
import java.util.regex.Matcher;
import java.util.regex.Pattern;

/** A second writing of the document, with texts, lists and patterns of the library, to compare answers with. */
final class PlainModel {
    private static final String DOMAIN = "(?=.{1,32}$)[a-zA-Z0-9]([a-zA-Z0-9-]*[a-zA-Z0-9])?(\\.[a-zA-Z0-9]([a-zA-Z0-9-]*[a-zA-Z0-9])?)*";
    private static final String LOCAL = "[a-zA-Z0-9_+-]+(\\.[a-zA-Z0-9_+-]+)*";
    private static final Pattern WORDS = Pattern.compile("(?i)HELO|EHLO|MAIL|RCPT|DATA|RSET|NOOP|QUIT");
    private static final Pattern SENDER = Pattern.compile("(?i)MAIL FROM:<(.*)>");
    private static final Pattern RECIPIENT = Pattern.compile("(?i)RCPT TO:<(.*)>");
    private static final Pattern KIND = Pattern.compile("(?i)content-type: *multipart/.*?boundary=([a-z0-9]*).*");

    static final class Breakdown extends RuntimeException {
        private static final long serialVersionUID = 1L;
    }

    static final class Mail {
        String sender = "";
        final List<String> to = new ArrayList<>();
        final int[] fate = new int[4];
        final int[] tries = new int[4];
        final int[] due = new int[4];
        String text = "";
        boolean seal;
    }

    String line = "";
    boolean greeted;
    Mail transaction;
    List<String> taken;
    final TreeMap<Integer, Mail> spool = new TreeMap<>();
    int given;
    int writes = Integer.MAX_VALUE;
    boolean down;
    int now;

    boolean type(long row) {
        StringBuilder more = new StringBuilder(line);
        for (int i = 0; i < 64 && (row >>> i & 255) != 0; i += 8) {
            long code = row >>> i & 255;
            if (code < 32 || code > 126) {
                return false;
            }
            more.append((char) code);
        }
        if (down || more.length() > 72) {
            return false;
        }
        line = more.toString();
        return true;
    }

    int enter() {
        if (down) {
            return -1;
        }
        String ended = line;
        line = "";
        try {
            return taken == null ? command(ended) : textLine(ended);
        } catch (Breakdown b) {
            return 0;
        }
    }

    private int command(String said) {
        String word = said.split(" ", 2)[0].toUpperCase(Locale.ROOT);
        if (!WORDS.matcher(word).matches()) {
            return 500;
        }
        if (word.equals("HELO") || word.equals("EHLO")) {
            if (said.length() < 6 || !said.substring(5).matches(DOMAIN)) {
                return 501;
            }
            greeted = true;
            transaction = null;
            return 250;
        }
        if (word.equals("MAIL")) {
            return mail(SENDER.matcher(said));
        }
        if (word.equals("RCPT")) {
            return rcpt(RECIPIENT.matcher(said));
        }
        if (!said.equalsIgnoreCase(word)) {
            return 501;
        }
        if (word.equals("DATA")) {
            if (transaction == null || transaction.to.isEmpty()) {
                return 503;
            }
            taken = new ArrayList<>();
            return 354;
        }
        if (!word.equals("NOOP")) {
            transaction = null;
        }
        if (word.equals("QUIT")) {
            greeted = false;
            return 221;
        }
        return 250;
    }

    private static boolean isPath(String path) {
        int at = path.indexOf('@');
        return path.length() <= 40 && at >= 0 && path.substring(0, at).matches(LOCAL)
            && path.substring(at + 1).matches(DOMAIN);
    }

    private int mail(Matcher said) {
        if (!said.matches() || !said.group(1).isEmpty() && !isPath(said.group(1))) {
            return 501;
        }
        if (!greeted || transaction != null) {
            return 503;
        }
        if (spool.size() == 6) {
            return 452;
        }
        transaction = new Mail();
        transaction.sender = said.group(1);
        return 250;
    }

    private int rcpt(Matcher said) {
        if (!said.matches() || !isPath(said.group(1))) {
            return 501;
        }
        if (transaction == null) {
            return 503;
        }
        if (transaction.to.size() == 4) {
            return 452;
        }
        transaction.to.add(said.group(1));
        return 250;
    }

    private int textLine(String said) {
        if (!said.equals(".")) {
            taken.add(said.startsWith(".") ? said.substring(1) : said);
            return 0;
        }
        Mail ended = transaction;
        for (String one : taken) {
            ended.text += one + "\n";
        }
        transaction = null;
        taken = null;
        if (ended.text.length() > 600) {
            return 552;
        }
        if (spool.size() == 6) {
            return 452;
        }
        spoolMail(ended);
        return 250;
    }

    private void write() {
        if (writes == 0) {
            down = true;
            throw new Breakdown();
        }
        if (writes <= 20) {
            writes--;
        }
    }

    private void spoolMail(Mail mail) {
        int number = given++;
        java.util.Arrays.fill(mail.due, now);
        write();
        spool.put(number, mail);
        write();
        mail.seal = true;
    }

    boolean breakAfter(int n) {
        if (down || n < 0 || n > 20) {
            return false;
        }
        writes = n;
        return true;
    }

    int restart() {
        if (!down) {
            return -1;
        }
        down = false;
        writes = Integer.MAX_VALUE;
        line = "";
        greeted = false;
        transaction = null;
        taken = null;
        spool.values().removeIf(mail -> !mail.seal);
        return spool.size();
    }

    int pass(int n) {
        if (n < 0 || n > 1000) {
            return -1;
        }
        now += n;
        return now;
    }

    /** The letter's number and the recipient's place in it; null when there is none. */
    private int[] nextOne() {
        int[] best = null;
        int least = Integer.MAX_VALUE;
        if (down) {
            return null;
        }
        for (Map.Entry<Integer, Mail> one : spool.entrySet()) {
            Mail mail = one.getValue();
            for (int r = 0; r < mail.to.size(); r++) {
                if (mail.seal && mail.fate[r] == 0 && mail.due[r] <= now && mail.due[r] < least) {
                    least = mail.due[r];
                    best = new int[] {one.getKey(), r};
                }
            }
        }
        return best;
    }

    int next() {
        int[] one = nextOne();
        return one == null ? -1 : one[0];
    }

    int reply(int code) {
        int[] one = nextOne();
        int kind = code < 0 ? -1 : code / 100;
        if (one == null || kind != 2 && kind != 4 && kind != 5) {
            return -1;
        }
        try {
            return handOn(one[0], spool.get(one[0]), one[1], kind);
        } catch (Breakdown b) {
            return 0;
        }
    }

    private int handOn(int number, Mail mail, int r, int kind) {
        int fate = kind == 2 ? 1 : 2;
        if (kind == 4 && mail.tries[r] < 3) {
            write();
            int[] waits = {0, 4, 16, 64};
            mail.tries[r]++;
            mail.due[r] = now + waits[mail.tries[r]];
            return 0;
        }
        if (fate == 2 && !mail.sender.isEmpty() && spool.size() < 6) {
            Mail back = new Mail();
            back.to.add(mail.sender);
            back.text = "\nReturned: " + mail.to.get(r) + "\n";
            spoolMail(back);
        }
        write();
        mail.fate[r] = fate;
        boolean waits = false;
        for (int i = 0; i < mail.to.size(); i++) {
            waits |= mail.fate[i] == 0;
        }
        if (!waits) {
            spool.remove(number);
        }
        return fate;
    }

    int state() {
        return down ? 0 : taken != null ? 4 : transaction != null ? 3 : greeted ? 2 : 1;
    }

    private List<Integer> sealed() {
        List<Integer> numbers = new ArrayList<>();
        spool.forEach((number, mail) -> {
            if (mail.seal) {
                numbers.add(number);
            }
        });
        return numbers;
    }

    private Mail find(int m) {
        Mail mail = spool.get(m);
        return mail != null && mail.seal ? mail : null;
    }

    int letters() {
        return sealed().size();
    }

    int letter(int k) {
        return k >= 0 && k < letters() ? sealed().get(k) : -1;
    }

    char text(int m, int i) {
        return find(m) == null ? 0 : at(find(m).text, i);
    }

    private static char at(String text, int i) {
        return i >= 0 && i < text.length() ? text.charAt(i) : 0;
    }

    char path(int m, int r, int i) {
        Mail mail = find(m);
        if (mail == null || r < -1 || r >= mail.to.size()) {
            return 0;
        }
        return at(r == -1 ? mail.sender : mail.to.get(r), i);
    }

    int recipient(int m, int r) {
        Mail mail = find(m);
        if (mail == null || r < 0 || r >= mail.to.size()) {
            return -1;
        }
        return mail.fate[r] == 0 ? mail.tries[r] : mail.fate[r] == 1 ? 10 : 20;
    }

    int due(int m, int r) {
        int told = recipient(m, r);
        return told == -1 || told >= 10 ? -1 : find(m).due[r];
    }

    int parts(int m) {
        return find(m) == null ? -1 : partsOf(find(m)).size();
    }

    int part(int m, int k, int what) {
        List<int[]> all = find(m) == null ? List.of() : partsOf(find(m));
        return k < 0 || k >= all.size() || what < 0 || what > 3 ? -1 : all.get(k)[what];
    }

    private static List<int[]> partsOf(Mail mail) {
        List<String> lines = new ArrayList<>();
        String rest = mail.text;
        while (!rest.isEmpty()) {
            lines.add(rest.substring(0, rest.indexOf('\n')));
            rest = rest.substring(rest.indexOf('\n') + 1);
        }
        List<int[]> all = new ArrayList<>();
        boolean right = gather(lines, 0, 0, all);
        return right && all.size() <= 16 ? all : List.of();
    }

    private static boolean gather(List<String> lines, int first, int depth, List<int[]> all) {
        int[] told = {depth, 0, first, lines.size()};
        all.add(told);
        int empty = lines.indexOf("");
        List<String> head = empty < 0 ? lines : lines.subList(0, empty);
        List<String> body = empty < 0 ? List.of() : lines.subList(empty + 1, lines.size());
        String boundary = null;
        boolean kindTold = false;
        for (int i = 0; i < head.size(); i++) {
            String one = head.get(i);
            if (one.startsWith(" ") && i > 0) {
                continue;
            }
            if (!one.matches("[A-Za-z0-9-]+:.*")) {
                return false;
            }
            if (!kindTold && one.substring(0, one.indexOf(':')).equalsIgnoreCase("content-type")) {
                kindTold = true;
                Matcher kind = KIND.matcher(one);
                boundary = kind.matches() && kind.group(1).matches(".{1,20}") ? kind.group(1) : null;
            }
        }
        if (boundary == null) {
            return depth <= 4;
        }
        told[1] = 1;
        int last = body.indexOf("--" + boundary + "--");
        List<Integer> borders = new ArrayList<>();
        for (int i = 0; i <= last; i++) {
            if (i == last || body.get(i).equals("--" + boundary)) {
                borders.add(i);
            }
        }
        boolean right = borders.size() >= 2 && depth <= 4;
        for (int i = 0; right && i + 1 < borders.size(); i++) {
            int start = borders.get(i) + 1;
            right = gather(body.subList(start, borders.get(i + 1)), first + empty + 1 + start, depth + 1, all);
        }
        return right;
    }
}
