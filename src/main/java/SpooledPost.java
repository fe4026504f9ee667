/**
 * Takes letters line by line, keeps them over breakdowns, hands them on, and tells their parts.
 *
 * <p>Every row of characters is made in a constructor and used again, so that no call makes an object.
 */
public final class SpooledPost {
    public static final int NONE = -1;

    private static final int LONGEST_LINE = 72;
    private static final int LONGEST_DOMAIN = 32;
    private static final int LONGEST_PATH = 40;
    private static final int LONGEST_TEXT = 600;
    private static final int LONGEST_BOUNDARY = 20;
    private static final int LONGEST_PASS = 1000;
    private static final int MOST_RECIPIENTS = 4;
    private static final int MOST_LETTERS = 6;
    private static final int MOST_TRIES = 3;
    private static final int MOST_WRITES_AHEAD = 20;
    private static final int MOST_PARTS = 16;
    private static final int DEEPEST_PART = 4;

    private static final int TYPED_AT_ONCE = 8;
    private static final int FIRST_CODE = 32;
    private static final int LAST_CODE = 126;
    private static final char LINE_END = 10;

    private static final int WAITING = 0;
    private static final int DELIVERED = 1;
    private static final int RETURNED = 2;
    private static final int TELLS_SETTLED = 10;

    private static final int NO_REPLY = 0;
    private static final int CLOSING = 221;
    private static final int FINE = 250;
    private static final int SEND_TEXT = 354;
    private static final int NO_ROOM = 452;
    private static final int NO_SUCH_WORD = 500;
    private static final int NOT_SO_WRITTEN = 501;
    private static final int NOT_NOW = 503;
    private static final int TOO_LONG = 552;

    private static final int WORD_LENGTH = 4;
    private static final String SENDER_OPENING = " from:<";
    private static final String RECIPIENT_OPENING = " to:<";
    private static final String RETURN_NOTE = "Returned: ";
    private static final Command[] COMMANDS = Command.values();

    private final Row line;
    private final Session session;
    private final Spool spool;
    private final PartReader reader;
    private int now;

    public SpooledPost() {
        line = new Row(LONGEST_LINE);
        session = new Session();
        spool = new Spool();
        reader = new PartReader();
        now = 0;
    }

    public boolean type(long row) {
        int typed = typedLength(row);
        if (spool.down || typed == NONE || line.length + typed > LONGEST_LINE) {
            return false;
        }
        for (int i = 0; i < typed; i++) {
            line.add((char) typedCode(row, i));
        }
        return true;
    }

    public int enter() {
        if (spool.down) {
            return NONE;
        }
        int answer = session.taking ? takeTextLine() : obey();
        line.clear();
        return answer;
    }

    public boolean breakAfter(int n) {
        if (spool.down || n < 0 || n > MOST_WRITES_AHEAD) {
            return false;
        }
        spool.writesLeft = n;
        return true;
    }

    public int restart() {
        if (!spool.down) {
            return NONE;
        }
        spool.recover();
        session.forget();
        line.clear();
        return spool.sealedCount();
    }

    public int pass(int n) {
        if (n < 0 || n > LONGEST_PASS) {
            return NONE;
        }
        now += n;
        return now;
    }

    public int next() {
        Letter holder = spool.down ? null : spool.holderOfNext(now);
        return holder == null ? NONE : holder.number;
    }

    public int reply(int code) {
        Letter holder = spool.down ? null : spool.holderOfNext(now);
        if (holder == null || !isReplyCode(code)) {
            return NONE;
        }
        Recipient asked = holder.firstDue(now);
        if (asked == null) {
            return NONE;
        }
        if (code < 300) {
            return settle(holder, asked, DELIVERED);
        }
        if (code < 500 && asked.tries < MOST_TRIES) {
            return postpone(asked);
        }
        return giveBack(holder, asked);
    }

    public int state() {
        if (spool.down) {
            return 0;
        }
        if (session.taking) {
            return 4;
        }
        if (session.inTransaction) {
            return 3;
        }
        return session.greeted ? 2 : 1;
    }

    public int letters() {
        return spool.sealedCount();
    }

    public int letter(int k) {
        return spool.sealedNumber(k);
    }

    public char text(int m, int i) {
        Letter found = spool.find(m);
        return found == null ? 0 : found.text.at(i);
    }

    public char path(int m, int r, int i) {
        Letter found = spool.find(m);
        if (found == null) {
            return 0;
        }
        if (r == NONE) {
            return found.sender.at(i);
        }
        Recipient asked = found.recipientAt(r);
        return asked == null ? 0 : asked.path.at(i);
    }

    public int recipient(int m, int r) {
        Recipient asked = findRecipient(m, r);
        if (asked == null) {
            return NONE;
        }
        return asked.fate == WAITING ? asked.tries : TELLS_SETTLED * asked.fate;
    }

    public int due(int m, int r) {
        Recipient asked = findRecipient(m, r);
        return asked == null || asked.fate != WAITING ? NONE : asked.due;
    }

    public int parts(int m) {
        Letter found = spool.find(m);
        if (found == null) {
            return NONE;
        }
        reader.read(found);
        return reader.count;
    }

    public int part(int m, int k, int what) {
        Letter found = spool.find(m);
        if (found == null) {
            return NONE;
        }
        reader.read(found);
        return reader.fact(k, what);
    }

    private static int typedCode(long row, int i) {
        return (int) ((row >>> (8 * i)) & 255L);
    }

    /** NONE when one of the codes is no character, so that the caller refuses before it changes the line. */
    private static int typedLength(long row) {
        for (int i = 0; i < TYPED_AT_ONCE; i++) {
            int code = typedCode(row, i);
            if (code == 0) {
                return i;
            }
            if (code < FIRST_CODE || code > LAST_CODE) {
                return NONE;
            }
        }
        return TYPED_AT_ONCE;
    }

    private static boolean isReplyCode(int code) {
        return code >= 200 && code <= 299 || code >= 400 && code <= 599;
    }

    private Recipient findRecipient(int m, int r) {
        Letter found = spool.find(m);
        return found == null ? null : found.recipientAt(r);
    }

    private int obey() {
        Command command = commandOfLine();
        if (command == null) {
            return NO_SUCH_WORD;
        }
        if (!isWrittenRight(command)) {
            return NOT_SO_WRITTEN;
        }
        switch (command) {
            case HELO:
            case EHLO:
                return greet();
            case MAIL:
                return beginTransaction();
            case RCPT:
                return addRecipient();
            case DATA:
                return beginText();
            case RSET:
                session.endTransaction();
                return FINE;
            case QUIT:
                session.forget();
                return CLOSING;
            default:
                return FINE;
        }
    }

    private Command commandOfLine() {
        if (line.length > WORD_LENGTH && line.at(WORD_LENGTH) != ' ') {
            return null;
        }
        for (int i = 0; i < COMMANDS.length; i++) {
            if (line.matches(0, COMMANDS[i].word)) {
                return COMMANDS[i];
            }
        }
        return null;
    }

    private boolean isWrittenRight(Command command) {
        switch (command) {
            case HELO:
            case EHLO:
                return Grammar.isDomain(line, WORD_LENGTH + 1, line.length);
            case MAIL:
                return isBracketed(SENDER_OPENING) && (isBracketEmpty(SENDER_OPENING) || isPathIn(SENDER_OPENING));
            case RCPT:
                return isBracketed(RECIPIENT_OPENING) && isPathIn(RECIPIENT_OPENING);
            default:
                return line.length == WORD_LENGTH;
        }
    }

    private boolean isBracketed(String opening) {
        return line.matches(WORD_LENGTH, opening) && line.at(line.length - 1) == '>';
    }

    private boolean isBracketEmpty(String opening) {
        return bracketStart(opening) == line.length - 1;
    }

    private boolean isPathIn(String opening) {
        return Grammar.isPath(line, bracketStart(opening), line.length - 1);
    }

    private static int bracketStart(String opening) {
        return WORD_LENGTH + opening.length();
    }

    private int greet() {
        session.greeted = true;
        session.endTransaction();
        return FINE;
    }

    private int beginTransaction() {
        if (!session.greeted || session.inTransaction) {
            return NOT_NOW;
        }
        if (spool.isFull()) {
            return NO_ROOM;
        }
        session.inTransaction = true;
        session.sender.clear();
        session.sender.addPiece(line, bracketStart(SENDER_OPENING), line.length - 1);
        return FINE;
    }

    private int addRecipient() {
        if (!session.inTransaction) {
            return NOT_NOW;
        }
        if (session.recipientCount >= MOST_RECIPIENTS) {
            return NO_ROOM;
        }
        Row added = session.recipients[session.recipientCount];
        added.clear();
        added.addPiece(line, bracketStart(RECIPIENT_OPENING), line.length - 1);
        session.recipientCount++;
        return FINE;
    }

    private int beginText() {
        if (!session.inTransaction || session.recipientCount == 0) {
            return NOT_NOW;
        }
        session.taking = true;
        session.tooLong = false;
        session.text.clear();
        return SEND_TEXT;
    }

    private int takeTextLine() {
        boolean dotted = line.at(0) == '.';
        if (dotted && line.length == 1) {
            return endText();
        }
        session.addTextLine(line, dotted ? 1 : 0);
        return NO_REPLY;
    }

    private int endText() {
        int answer = session.tooLong ? TOO_LONG : spool.isFull() ? NO_ROOM : spoolSession();
        session.endTransaction();
        return answer;
    }

    private int spoolSession() {
        Letter fresh = spool.begin();
        if (fresh == null) {
            return NO_REPLY;
        }
        fresh.sender.addRow(session.sender);
        for (int i = 0; i < session.recipientCount; i++) {
            fresh.address(session.recipients[i], now);
        }
        fresh.text.addRow(session.text);
        return spool.seal(fresh) ? FINE : NO_REPLY;
    }

    private int settle(Letter holder, Recipient asked, int fate) {
        if (!spool.write()) {
            return WAITING;
        }
        asked.fate = fate;
        if (!holder.isAwaited()) {
            spool.drop(holder);
        }
        return fate;
    }

    private int postpone(Recipient asked) {
        if (spool.write()) {
            asked.tries++;
            asked.due = now + (1 << (2 * asked.tries));
        }
        return WAITING;
    }

    private int giveBack(Letter holder, Recipient asked) {
        boolean tellsSender = holder.sender.length > 0 && !spool.isFull();
        if (tellsSender && !spoolReturn(holder, asked)) {
            return WAITING;
        }
        return settle(holder, asked, RETURNED);
    }

    private boolean spoolReturn(Letter holder, Recipient asked) {
        Letter fresh = spool.begin();
        if (fresh == null) {
            return false;
        }
        fresh.address(holder.sender, now);
        fresh.text.add(LINE_END);
        fresh.text.addWords(RETURN_NOTE);
        fresh.text.addRow(asked.path);
        fresh.text.add(LINE_END);
        return spool.seal(fresh);
    }

    private enum Command {
        HELO("helo"), EHLO("ehlo"), MAIL("mail"), RCPT("rcpt"),
        DATA("data"), RSET("rset"), NOOP("noop"), QUIT("quit");

        final String word;

        Command(String word) {
            this.word = word;
        }
    }

    /** Characters with a fixed room; what has no room is left out, so that no index is ever out of bounds. */
    private static final class Row {
        final char[] chars;
        int length;

        Row(int room) {
            chars = new char[room];
            length = 0;
        }

        void clear() {
            length = 0;
        }

        char at(int i) {
            return i >= 0 && i < length ? chars[i] : 0;
        }

        void add(char c) {
            if (length < chars.length) {
                chars[length] = c;
                length++;
            }
        }

        void addPiece(Row from, int start, int end) {
            for (int i = start; i < end; i++) {
                add(from.at(i));
            }
        }

        void addRow(Row from) {
            int added = Math.min(from.length, chars.length - length);
            System.arraycopy(from.chars, 0, chars, length, added);
            length += added;
        }

        void addWords(String words) {
            for (int i = 0; i < words.length(); i++) {
                add(words.charAt(i));
            }
        }

        /** The words are written small; capital and small letters of the row are alike. */
        boolean matches(int start, String words) {
            if (start < 0 || start > length - words.length()) {
                return false;
            }
            for (int i = 0; i < words.length(); i++) {
                if (Grammar.small(chars[start + i]) != words.charAt(i)) {
                    return false;
                }
            }
            return true;
        }
    }

    private static final class Grammar {
        static char small(char c) {
            return c >= 'A' && c <= 'Z' ? (char) (c + ('a' - 'A')) : c;
        }

        static boolean isLetterOrDigit(char c) {
            return c >= 'a' && c <= 'z' || c >= 'A' && c <= 'Z' || c >= '0' && c <= '9';
        }

        static boolean isPath(Row row, int start, int end) {
            if (end - start > LONGEST_PATH) {
                return false;
            }
            for (int i = start; i < end; i++) {
                if (row.at(i) == '@') {
                    return isLocal(row, start, i) && isDomain(row, i + 1, end);
                }
            }
            return false;
        }

        static boolean isLocal(Row row, int start, int end) {
            boolean atomBegun = false;
            for (int i = start; i < end; i++) {
                char c = row.at(i);
                boolean isOfAtom = isLetterOrDigit(c) || c == '-' || c == '_' || c == '+';
                if (!isOfAtom && !(c == '.' && atomBegun)) {
                    return false;
                }
                atomBegun = isOfAtom;
            }
            return atomBegun;
        }

        /** The place before the domain counts as a dot, because a label begins behind both. */
        static boolean isDomain(Row row, int start, int end) {
            if (end - start > LONGEST_DOMAIN) {
                return false;
            }
            char before = '.';
            for (int i = start; i < end; i++) {
                char c = row.at(i);
                boolean fits = c == '.' ? isLetterOrDigit(before) : c == '-' ? before != '.' : isLetterOrDigit(c);
                if (!fits) {
                    return false;
                }
                before = c;
            }
            return isLetterOrDigit(before);
        }
    }

    private static final class Session {
        final Row sender;
        final Row[] recipients;
        final Row text;
        int recipientCount;
        boolean greeted;
        boolean inTransaction;
        boolean taking;
        boolean tooLong;

        Session() {
            sender = new Row(LONGEST_PATH);
            recipients = new Row[MOST_RECIPIENTS];
            for (int i = 0; i < MOST_RECIPIENTS; i++) {
                recipients[i] = new Row(LONGEST_PATH);
            }
            text = new Row(LONGEST_TEXT);
        }

        void forget() {
            greeted = false;
            endTransaction();
        }

        void endTransaction() {
            inTransaction = false;
            taking = false;
            recipientCount = 0;
        }

        /** A text that is too long is never kept, so its further lines need no room. */
        void addTextLine(Row line, int start) {
            if (text.length + line.length - start + 1 > LONGEST_TEXT) {
                tooLong = true;
            }
            if (!tooLong) {
                text.addPiece(line, start, line.length);
                text.add(LINE_END);
            }
        }
    }

    private static final class Recipient {
        final Row path;
        int fate;
        int tries;
        int due;

        Recipient() {
            path = new Row(LONGEST_PATH);
        }
    }

    private static final class Letter {
        final Row sender;
        final Recipient[] recipients;
        final Row text;
        int recipientCount;
        int number;
        boolean sealed;

        Letter() {
            sender = new Row(LONGEST_PATH);
            recipients = new Recipient[MOST_RECIPIENTS];
            for (int i = 0; i < MOST_RECIPIENTS; i++) {
                recipients[i] = new Recipient();
            }
            text = new Row(LONGEST_TEXT);
        }

        void begin(int givenNumber) {
            number = givenNumber;
            sealed = false;
            recipientCount = 0;
            sender.clear();
            text.clear();
        }

        void address(Row path, int now) {
            if (recipientCount < MOST_RECIPIENTS) {
                Recipient added = recipients[recipientCount];
                added.path.clear();
                added.path.addRow(path);
                added.fate = WAITING;
                added.tries = 0;
                added.due = now;
                recipientCount++;
            }
        }

        Recipient recipientAt(int r) {
            return r >= 0 && r < recipientCount ? recipients[r] : null;
        }

        boolean isAwaited() {
            for (int i = 0; i < recipientCount; i++) {
                if (recipients[i].fate == WAITING) {
                    return true;
                }
            }
            return false;
        }

        Recipient firstDue(int now) {
            Recipient first = null;
            for (int i = 0; i < recipientCount; i++) {
                Recipient one = recipients[i];
                boolean isReady = one.fate == WAITING && one.due <= now;
                if (isReady && (first == null || one.due < first.due)) {
                    first = one;
                }
            }
            return first;
        }
    }

    /** Its letters stand first in its row, by their numbers; the rest of the row is room to use again. */
    private static final class Spool {
        final Letter[] row;
        int count;
        int nextNumber;
        int writesLeft;
        boolean down;

        Spool() {
            row = new Letter[MOST_LETTERS];
            for (int i = 0; i < MOST_LETTERS; i++) {
                row[i] = new Letter();
            }
            writesLeft = NONE;
        }

        /** False when the breakdown came in place of the write. */
        boolean write() {
            if (writesLeft == 0) {
                down = true;
                return false;
            }
            if (writesLeft > 0) {
                writesLeft--;
            }
            return true;
        }

        boolean isFull() {
            return count >= MOST_LETTERS;
        }

        /** The number is given before the write, because a letter that fails to be spooled has one too. */
        Letter begin() {
            if (isFull()) {
                return null;
            }
            int number = nextNumber;
            nextNumber++;
            if (!write()) {
                return null;
            }
            Letter fresh = row[count];
            fresh.begin(number);
            count++;
            return fresh;
        }

        boolean seal(Letter fresh) {
            fresh.sealed = write();
            return fresh.sealed;
        }

        void recover() {
            for (int i = count - 1; i >= 0; i--) {
                if (!row[i].sealed) {
                    drop(row[i]);
                }
            }
            writesLeft = NONE;
            down = false;
        }

        void drop(Letter gone) {
            int kept = 0;
            for (int i = 0; i < count; i++) {
                Letter one = row[i];
                if (one != gone) {
                    row[kept] = one;
                    kept++;
                }
            }
            if (kept < count) {
                row[kept] = gone;
                count = kept;
            }
        }

        int sealedCount() {
            int sealed = 0;
            for (int i = 0; i < count; i++) {
                if (row[i].sealed) {
                    sealed++;
                }
            }
            return sealed;
        }

        int sealedNumber(int k) {
            int sealed = 0;
            for (int i = 0; i < count; i++) {
                if (row[i].sealed) {
                    if (sealed == k) {
                        return row[i].number;
                    }
                    sealed++;
                }
            }
            return NONE;
        }

        Letter find(int number) {
            for (int i = 0; i < count; i++) {
                if (row[i].sealed && row[i].number == number) {
                    return row[i];
                }
            }
            return null;
        }

        Letter holderOfNext(int now) {
            Letter holder = null;
            Recipient best = null;
            for (int i = 0; i < count; i++) {
                Recipient one = row[i].sealed ? row[i].firstDue(now) : null;
                if (one != null && (best == null || one.due < best.due)) {
                    holder = row[i];
                    best = one;
                }
            }
            return holder;
        }
    }

    private static final class PartReader {
        static final int FACTS = 4;
        static final int DEPTH = 0;
        static final int MULTIPART = 1;
        static final int FIRST_LINE = 2;
        static final int LINES = 3;

        static final int NO_BORDER = 0;
        static final int BORDER = 1;
        static final int LAST_BORDER = 2;

        static final String KIND_FIELD = "content-type:";
        static final String MULTIPART_OPENING = "multipart/";
        static final String BOUNDARY_OPENING = "boundary=";

        final int[] lineStarts;
        final int[] facts;
        Row text;
        int lineCount;
        int count;
        int readNumber;

        PartReader() {
            lineStarts = new int[LONGEST_TEXT + 1];
            facts = new int[MOST_PARTS * FACTS];
            readNumber = NONE;
        }

        /** No number is given twice and no text changes, so a letter that was just read is not read again. */
        void read(Letter asked) {
            if (asked.number == readNumber) {
                return;
            }
            readNumber = asked.number;
            text = asked.text;
            splitLines();
            count = 0;
            if (!takePart(0, lineCount, 0)) {
                count = 0;
            }
        }

        int fact(int k, int what) {
            if (k < 0 || k >= count || what < 0 || what >= FACTS) {
                return NONE;
            }
            return facts[k * FACTS + what];
        }

        private void splitLines() {
            lineCount = 0;
            lineStarts[0] = 0;
            for (int i = 0; i < text.length; i++) {
                if (text.at(i) == LINE_END) {
                    lineCount++;
                    lineStarts[lineCount] = i + 1;
                }
            }
        }

        private int lineEnd(int line) {
            return lineStarts[line + 1] - 1;
        }

        /** False as soon as something is broken, because that makes the whole letter broken. */
        private boolean takePart(int start, int end, int depth) {
            if (depth > DEEPEST_PART || count >= MOST_PARTS) {
                return false;
            }
            int base = count * FACTS;
            count++;
            int headEnd = findHeadEnd(start, end);
            if (!isHeadRight(start, headEnd)) {
                return false;
            }
            int boundary = findBoundary(start, headEnd);
            facts[base + DEPTH] = depth;
            facts[base + MULTIPART] = boundary == NONE ? 0 : 1;
            facts[base + FIRST_LINE] = start;
            facts[base + LINES] = end - start;
            return boundary == NONE || takeBody(headEnd + 1, end, boundary, depth);
        }

        private boolean takeBody(int start, int end, int boundary, int depth) {
            int length = boundaryLength(boundary);
            int partStart = NONE;
            for (int i = start; i < end; i++) {
                int border = borderKind(i, boundary, length);
                if (border == NO_BORDER) {
                    continue;
                }
                if (partStart != NONE && !takePart(partStart, i, depth + 1)) {
                    return false;
                }
                if (border == LAST_BORDER) {
                    return partStart != NONE;
                }
                partStart = i + 1;
            }
            return false;
        }

        private int findHeadEnd(int start, int end) {
            for (int i = start; i < end; i++) {
                if (lineStarts[i] == lineEnd(i)) {
                    return i;
                }
            }
            return end;
        }

        private boolean isHeadRight(int start, int end) {
            for (int i = start; i < end; i++) {
                boolean goesOn = i > start && text.at(lineStarts[i]) == ' ';
                if (!goesOn && !isField(i)) {
                    return false;
                }
            }
            return true;
        }

        private boolean isField(int line) {
            int start = lineStarts[line];
            int end = lineEnd(line);
            for (int i = start; i < end; i++) {
                char c = text.at(i);
                if (c == ':') {
                    return i > start;
                }
                if (!Grammar.isLetterOrDigit(c) && c != '-') {
                    return false;
                }
            }
            return false;
        }

        /** The boundary's place in the text; NONE when the row of lines is plain. */
        private int findBoundary(int start, int end) {
            for (int i = start; i < end; i++) {
                if (text.matches(lineStarts[i], KIND_FIELD)) {
                    return findBoundaryBetween(lineStarts[i] + KIND_FIELD.length(), lineEnd(i));
                }
            }
            return NONE;
        }

        private int findBoundaryBetween(int start, int end) {
            int kind = start;
            while (kind < end && text.at(kind) == ' ') {
                kind++;
            }
            if (!text.matches(kind, MULTIPART_OPENING)) {
                return NONE;
            }
            for (int i = kind + MULTIPART_OPENING.length(); i < end; i++) {
                if (text.matches(i, BOUNDARY_OPENING)) {
                    int boundary = i + BOUNDARY_OPENING.length();
                    int length = boundaryLength(boundary);
                    return length >= 1 && length <= LONGEST_BOUNDARY ? boundary : NONE;
                }
            }
            return NONE;
        }

        /** The end of the line is neither letter nor digit, so no boundary runs over it. */
        private int boundaryLength(int boundary) {
            int end = boundary;
            while (end < text.length && Grammar.isLetterOrDigit(text.at(end))) {
                end++;
            }
            return end - boundary;
        }

        private int borderKind(int line, int boundary, int length) {
            int start = lineStarts[line];
            int behind = start + 2 + length;
            if (!isDashed(start) || !repeats(start + 2, boundary, length)) {
                return NO_BORDER;
            }
            if (behind == lineEnd(line)) {
                return BORDER;
            }
            return behind + 2 == lineEnd(line) && isDashed(behind) ? LAST_BORDER : NO_BORDER;
        }

        private boolean isDashed(int start) {
            return text.at(start) == '-' && text.at(start + 1) == '-';
        }

        private boolean repeats(int start, int boundary, int length) {
            for (int i = 0; i < length; i++) {
                if (text.at(start + i) != text.at(boundary + i)) {
                    return false;
                }
            }
            return true;
        }
    }
}
