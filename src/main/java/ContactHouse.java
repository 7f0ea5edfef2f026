/**
 * Checks the logs of a radio contest against one another. The promises that
 * its calls keep, and the words used here, stand in shared/DOC.md.
 */
public final class ContactHouse {
    private static final int NONE = -1;
    private static final int MAX_STATIONS = 12;
    private static final int BANDS = 3;
    private static final int ZONES = 40;
    private static final int SQUARES = 100;
    private static final int MAX_ENTRIES = 16;
    private static final int MAX_EDITIONS = 20;
    private static final int BYTES_OF_A_FEED = 20;

    private static final int SINGLE = 0;
    private static final int MULTI = 1;
    private static final int PORTABLE = 2;
    private static final int CHECK = 3;
    private static final int TEAM = 4;

    private static final int CONTACT = 0;
    private static final int REST = 1;
    private static final int REMARK = 2;

    private static final int FINDING_NOT_WORKED = 1;
    private static final int FINDING_BEYOND = 2;
    private static final int FINDING_OTHER_ENTRY = 3;
    private static final int FINDING_NO_STATION = 4;
    private static final int FINDING_DIVIDED_BY_0 = 5;
    private static final int FINDING_NO_BAND = 6;
    private static final int FINDING_OTHER_KIND = 7;

    private static final int WHY_PAIRED = 0;
    private static final int WHY_DUPE = 1;
    private static final int WHY_SHORT = 2;
    private static final int WHY_MISHEARD = 3;
    private static final int WHY_UNIQUE = 4;
    private static final int WHY_NOT_LOGGED = 5;
    private static final int WHY_ELSE = 6;

    private static final long NO_CALL = 0;
    private static final int LONGEST_CALL = 6;

    /** Stands for a value in which something is divided by 0: no int is as great. */
    private static final long DIVIDED_BY_0 = 1L << 40;
    /** Later than any moment, put right or not. */
    private static final long NEVER = 1L << 40;

    private final Tape tape;
    private final Roster roster;
    private final LogReader reader;
    private final Formula formula;
    private final Checker checker;
    private final Scores scores;
    private final int[][] editions;
    private final int[] editionSizes;
    private int editionCount;
    private int latestFinding;
    private int opened;
    private int closed;
    private int asks;
    private int asksWithFinding;

    public ContactHouse() {
        tape = new Tape();
        roster = new Roster();
        reader = new LogReader(tape);
        formula = new Formula();
        checker = new Checker(roster);
        scores = new Scores(roster, formula);
        editions = new int[MAX_EDITIONS][MAX_STATIONS];
        editionSizes = new int[MAX_EDITIONS];
    }

    public int feed(int a, int b, int c, int d, int e) {
        if (!tape.hasRoomFor(BYTES_OF_A_FEED)) {
            return -1;
        }
        tape.add(a);
        tape.add(b);
        tape.add(c);
        tape.add(d);
        tape.add(e);
        return tape.size;
    }

    public int end(int n) {
        if (n < 0 || n > tape.size) {
            return -1;
        }
        tape.size = n;
        return n;
    }

    public int station(int kind, int zone, int x, int y) {
        long call = tape.callBetween(0, tape.size);
        tape.size = 0;
        if (!isBelow(kind, TEAM + 1) || !isBelow(zone, ZONES) || !isBelow(x, SQUARES) || !isBelow(y, SQUARES)) {
            return -1;
        }
        if (call == NO_CALL) {
            return -2;
        }
        if (roster.numberOf(call) != NONE) {
            return -3;
        }
        if (roster.size >= MAX_STATIONS) {
            return -4;
        }
        checker.fresh = false;
        return roster.add(new Station(kind, zone, x, y, call));
    }

    public int join(int team, int s) {
        Station group = roster.at(team);
        Station member = roster.at(s);
        if (group == null || member == null || group.kind != TEAM) {
            return -1;
        }
        if (member.kind == TEAM) {
            return -2;
        }
        if (member.team != NONE) {
            return -3;
        }
        member.team = team;
        group.members++;
        return group.members;
    }

    public int log(int s, int band) {
        Station owner = roster.at(s);
        int answer;
        if (owner == null || !isBelow(band, BANDS)) {
            answer = -1;
        } else if (owner.kind == TEAM) {
            answer = -2;
        } else {
            answer = reader.readTape() ? reader.draft.size : -3;
        }
        tape.size = 0;
        if (owner == null || answer < 0) {
            reader.wrongCount = 0;
            return answer;
        }
        // The old log's rows become those that the next log is read into.
        reader.draft = owner.putLog(band, reader.draft);
        checker.fresh = false;
        return answer;
    }

    public int wrong(int i) {
        return isBelow(i, reader.wrongCount) ? reader.wrongLines[i] : -1;
    }

    public int rule() {
        int answer = formula.read(tape);
        tape.size = 0;
        return answer;
    }

    public int window(int w) {
        if (!isBelow(w, 3601)) {
            return -1;
        }
        checker.setWindow(w);
        return 1;
    }

    public int penalty(int p) {
        if (!isBelow(p, 1001)) {
            return -1;
        }
        scores.penalty = p;
        return 1;
    }

    public int lines(int s, int band) {
        Log log = askedLog(s, band);
        return (int) answered(log == null ? 0 : log.size);
    }

    public int entry(int s, int band, int i) {
        Entry e = askedLine(s, band, i);
        return (int) answered(e == null ? 0 : e.kind);
    }

    public long moment(int s, int band, int i, int k) {
        Entry e = askedLine(s, band, i);
        if (e == null) {
            return answered(0);
        }
        if (e.kind == REMARK) {
            return refused(FINDING_OTHER_ENTRY);
        }
        if (k == 1 && e.kind == REST) {
            return answered(e.until);
        }
        return k == 0 ? answered(e.moment) : refused(FINDING_BEYOND);
    }

    public int character(int s, int band, int i, int k) {
        Entry c = askedContact(s, band, i);
        if (c == null) {
            return (int) answered(0);
        }
        if (!isBelow(k, c.callLength())) {
            return (int) refused(FINDING_BEYOND);
        }
        return (int) answered(c.callCharacter(k));
    }

    public int number(int s, int band, int i, int k) {
        Entry c = askedContact(s, band, i);
        if (c == null) {
            return (int) answered(0);
        }
        int value = k == 0 ? c.sent : k == 1 ? c.got : NONE;
        return (int) (value == NONE ? refused(FINDING_BEYOND) : answered(value));
    }

    public long offset(int s) {
        checker.refresh();
        Station st = askedStationWithLog(s);
        return answered(st == null ? 0 : st.offset);
    }

    public int pair(int s, int band, int i) {
        checker.refresh();
        Entry c = askedContact(s, band, i);
        if (c == null) {
            return (int) answered(0);
        }
        return (int) answered(c.isPaired() ? 100 * c.mateStation + c.mateLine : -1);
    }

    public int why(int s, int band, int i) {
        checker.refresh();
        Entry c = askedContact(s, band, i);
        return (int) answered(c == null ? 0 : c.why);
    }

    public int meant(int s, int band, int i) {
        checker.refresh();
        Entry c = askedContact(s, band, i);
        return (int) answered(c == null ? 0 : c.meant);
    }

    public int points(int s, int band, int i) {
        Entry c = askedContact(s, band, i);
        Station own = roster.at(s);
        if (c == null || own == null) {
            return (int) answered(0);
        }
        return (int) answeredSum(formula.valueFor(band, own, roster.at(roster.numberOf(c.call))));
    }

    public int total(int s) {
        checker.refresh();
        Station st = askedStation(s);
        return (int) answeredSum(st == null ? 0 : scores.totalOf(s));
    }

    public long rate(int s) {
        checker.refresh();
        Station st = askedStationWithLog(s);
        if (st == null) {
            return answered(0);
        }
        long span = st.spanOfContacts();
        if (span == 0) {
            return refused(FINDING_DIVIDED_BY_0);
        }
        return answered(3600L * st.contactsWithWhy(WHY_PAIRED) / span);
    }

    public int place(int s) {
        checker.refresh();
        Station st = askedStation(s);
        if (st == null) {
            return (int) answered(0);
        }
        if (!st.isRanked()) {
            return (int) refused(FINDING_OTHER_KIND);
        }
        int own = orZero(scores.totalOf(s));
        int place = 1;
        for (int t = 0; t < roster.size; t++) {
            Station other = roster.at(t);
            if (other != null && other.isRanked() && orZero(scores.totalOf(t)) > own) {
                place++;
            }
        }
        return (int) answered(place);
    }

    public int publish() {
        if (editionCount >= MAX_EDITIONS) {
            return -1;
        }
        checker.refresh();
        for (int s = 0; s < roster.size; s++) {
            editions[editionCount][s] = orZero(scores.totalOf(s));
        }
        editionSizes[editionCount] = roster.size;
        editionCount++;
        return editionCount;
    }

    public int known(int edition, int s) {
        Station st = askedStation(s);
        if (st == null) {
            return (int) answered(0);
        }
        if (edition < 1 || edition > editionCount || s >= editionSizes[edition - 1]) {
            return (int) refused(FINDING_BEYOND);
        }
        return (int) answered(editions[edition - 1][s]);
    }

    public int finding() {
        return latestFinding;
    }

    public int count(int what) {
        switch (what) {
            case 0: return roster.size;
            case 1: return tape.size;
            case 2: return reader.wrongCount;
            case 3: return opened;
            case 4: return closed;
            case 5: return asks;
            case 6: return asksWithFinding;
            case 7: return editionCount;
            default: return -1;
        }
    }

    private static boolean isBelow(int value, int bound) {
        return value >= 0 && value < bound;
    }

    /** Begins an ask: opens the station's log, or has the finding that there is no such station. */
    private Station askedStation(int s) {
        asks++;
        latestFinding = 0;
        Station st = roster.at(s);
        if (st == null) {
            latestFinding = FINDING_NO_STATION;
        } else {
            opened++;
        }
        return st;
    }

    private Station askedStationWithLog(int s) {
        Station st = askedStation(s);
        if (st == null) {
            return null;
        }
        if (!st.hasLog()) {
            latestFinding = FINDING_OTHER_KIND;
            return null;
        }
        return st;
    }

    private Log askedLog(int s, int band) {
        Station st = askedStation(s);
        if (st == null) {
            return null;
        }
        Log log = st.logOf(band);
        if (log == null) {
            latestFinding = FINDING_NO_BAND;
            return null;
        }
        if (log.missing) {
            latestFinding = FINDING_NOT_WORKED;
            return null;
        }
        return log;
    }

    private Entry askedLine(int s, int band, int i) {
        Log log = askedLog(s, band);
        if (log == null) {
            return null;
        }
        Entry e = log.at(i);
        if (e == null) {
            latestFinding = FINDING_BEYOND;
        }
        return e;
    }

    private Entry askedContact(int s, int band, int i) {
        Entry e = askedLine(s, band, i);
        if (e == null || e.kind == CONTACT) {
            return e;
        }
        latestFinding = FINDING_OTHER_ENTRY;
        return null;
    }

    /** Ends an ask: every way out of one goes through here, so that what was opened is closed. */
    private long answered(long value) {
        if (closed < opened) {
            closed++;
        }
        if (latestFinding == 0) {
            return value;
        }
        asksWithFinding++;
        return 0;
    }

    private long refused(int finding) {
        latestFinding = finding;
        return answered(0);
    }

    private long answeredSum(long sum) {
        return sum == DIVIDED_BY_0 ? refused(FINDING_DIVIDED_BY_0) : answered(sum);
    }

    private static int orZero(long sum) {
        return sum == DIVIDED_BY_0 ? 0 : (int) sum;
    }

    /** The bytes that were fed, and a cursor over the words of a stretch of them. */
    private static final class Tape {
        private static final int LIMIT = 1000;
        private static final int BLANK = 32;
        private static final int NEWLINE = 10;

        private final int[] bytes = new int[LIMIT];
        private int size;
        private int cursor;
        private int limit;
        private int wordStart;
        private int wordLength;

        private boolean hasRoomFor(int more) {
            return more <= LIMIT - size;
        }

        private void add(int fourBytes) {
            for (int shift = 24; shift >= 0 && size < LIMIT; shift -= 8) {
                bytes[size] = fourBytes >>> shift & 255;
                size++;
            }
        }

        private int byteAt(int i) {
            return i >= 0 && i < size ? bytes[i] : NONE;
        }

        private static boolean isDigit(int b) {
            return b >= '0' && b <= '9';
        }

        private int lineEnd(int from) {
            int at = from;
            while (at < size && byteAt(at) != NEWLINE) {
                at++;
            }
            return at;
        }

        private void startWords(int from, int to) {
            cursor = from;
            limit = to;
        }

        /**
         * At the end of the stretch an empty word stands at its limit: it has no form
         * that is asked for, and its place is the one that a lacking word is told by.
         */
        private boolean nextWord() {
            int at = cursor;
            while (at < limit && byteAt(at) == BLANK) {
                at++;
            }
            wordStart = at;
            while (at < limit && byteAt(at) != BLANK) {
                at++;
            }
            wordLength = at - wordStart;
            cursor = at;
            return wordLength > 0;
        }

        private boolean wordIs(String text) {
            if (wordLength != text.length()) {
                return false;
            }
            for (int i = 0; i < text.length(); i++) {
                if (byteAt(wordStart + i) != text.charAt(i)) {
                    return false;
                }
            }
            return true;
        }

        /** The number that the word tells, or NONE if it is not 1 to mostDigits digits. */
        private long wordAsNumber(int mostDigits) {
            if (wordLength < 1 || wordLength > mostDigits) {
                return NONE;
            }
            long value = 0;
            for (int i = 0; i < wordLength; i++) {
                int b = byteAt(wordStart + i);
                if (!isDigit(b)) {
                    return NONE;
                }
                value = 10 * value + (b - '0');
            }
            return value;
        }

        private long wordAsCall() {
            return callBetween(wordStart, wordStart + wordLength);
        }

        /** A CALL is kept as one long, a byte a character, so that no text is made for it. */
        private long callBetween(int from, int to) {
            if (to <= from || to - from > LONGEST_CALL) {
                return NO_CALL;
            }
            long call = 0;
            for (int i = from; i < to; i++) {
                int b = byteAt(i);
                if (!isDigit(b) && (b < 'A' || b > 'Z')) {
                    return NO_CALL;
                }
                call = call << 8 | b;
            }
            return call;
        }
    }

    /** A line of a log, and, for a contact, what the latest check found of it. */
    private static final class Entry {
        private int kind;
        private long moment;
        private long until;
        private long call;
        private int sent;
        private int got;
        private int target;
        private int mateStation;
        private int mateLine;
        private int why;
        private int meant;

        private void copyLine(Entry other) {
            kind = other.kind;
            moment = other.moment;
            until = other.until;
            call = other.call;
            sent = other.sent;
            got = other.got;
        }

        private boolean isComplete() {
            return sent != NONE && got != NONE;
        }

        private boolean isPaired() {
            return mateStation != NONE;
        }

        /** Whether the numbers of both agree, whatever their CALLS and MOMENTS are. */
        private boolean answersTo(Entry d) {
            return sent != NONE && got != NONE && got == d.sent && sent == d.got;
        }

        private int callLength() {
            int length = 0;
            while (length < LONGEST_CALL && call >>> 8 * length != 0) {
                length++;
            }
            return length;
        }

        private int callCharacter(int k) {
            return (int) (call >>> 8 * (callLength() - 1 - k)) & 255;
        }

        private boolean isMisheardFrom(long other) {
            int places = 0;
            for (int shift = 0; shift < 8 * LONGEST_CALL; shift += 8) {
                long mine = call >>> shift & 255;
                long theirs = other >>> shift & 255;
                if (mine != theirs) {
                    places++;
                }
                // Only behind its end does one of them have no character.
                if ((mine == 0) != (theirs == 0)) {
                    return false;
                }
            }
            return places == 1;
        }
    }

    /** A station's log of a band. */
    private static final class Log {
        private final Entry[] rows = new Entry[MAX_ENTRIES];
        private int size;
        private boolean missing = true;

        private Log() {
            for (int i = 0; i < MAX_ENTRIES; i++) {
                rows[i] = new Entry();
            }
        }

        private boolean add(Entry line) {
            if (size >= MAX_ENTRIES) {
                return false;
            }
            rows[size].copyLine(line);
            size++;
            return true;
        }

        private Entry at(int i) {
            return i >= 0 && i < size ? rows[i] : null;
        }

        /** Null if line i is no contact. */
        private Entry contactAt(int i) {
            return i >= 0 && i < size && rows[i].kind == CONTACT ? rows[i] : null;
        }

        private boolean holdsCall(long call) {
            for (int i = 0; i < size; i++) {
                if (rows[i].kind == CONTACT && rows[i].call == call) {
                    return true;
                }
            }
            return false;
        }
    }

    private static final class Station {
        private final int kind;
        private final int zone;
        private final int x;
        private final int y;
        private final long call;
        private final Log[] logs = new Log[BANDS];
        private int team = NONE;
        private int members;
        private long offset;

        private Station(int kind, int zone, int x, int y, long call) {
            this.kind = kind;
            this.zone = zone;
            this.x = x;
            this.y = y;
            this.call = call;
            for (int band = 0; band < BANDS; band++) {
                logs[band] = new Log();
            }
        }

        private Log logOf(int band) {
            return band >= 0 && band < BANDS ? logs[band] : null;
        }

        /** Answers the log that stood there, or the new one itself if there is no such band. */
        private Log putLog(int band, Log log) {
            if (band < 0 || band >= BANDS) {
                return log;
            }
            Log old = logs[band];
            logs[band] = log;
            return old;
        }

        private boolean hasLog() {
            for (Log log : logs) {
                if (!log.missing) {
                    return true;
                }
            }
            return false;
        }

        private boolean isRanked() {
            return kind != TEAM && kind != CHECK;
        }

        private long putRight(Entry c) {
            return c.moment + offset;
        }

        private boolean holdsCall(long other) {
            for (Log log : logs) {
                if (log.holdsCall(other)) {
                    return true;
                }
            }
            return false;
        }

        private int contactsWithWhy(int why) {
            int found = 0;
            for (Log log : logs) {
                for (int i = 0; i < log.size; i++) {
                    Entry c = log.contactAt(i);
                    if (c != null && c.why == why) {
                        found++;
                    }
                }
            }
            return found;
        }

        /** From the first moment of all contacts to the last one. */
        private long spanOfContacts() {
            long first = NEVER;
            long last = 0;
            for (Log log : logs) {
                for (int i = 0; i < log.size; i++) {
                    Entry c = log.contactAt(i);
                    if (c != null) {
                        first = Math.min(first, c.moment);
                        last = Math.max(last, c.moment);
                    }
                }
            }
            return first == NEVER ? 0 : last - first;
        }

        private int distanceTo(Station other) {
            int dx = x - other.x;
            int dy = y - other.y;
            int square = dx * dx + dy * dy;
            int root = 0;
            for (int bit = 128; bit > 0; bit >>= 1) {
                int larger = root + bit;
                if (larger * larger <= square) {
                    root = larger;
                }
            }
            return root;
        }
    }

    private static final class Roster {
        private final Station[] stations = new Station[MAX_STATIONS];
        private int size;

        private int add(Station st) {
            if (size >= MAX_STATIONS) {
                return NONE;
            }
            stations[size] = st;
            size++;
            return size - 1;
        }

        private Station at(int s) {
            return s >= 0 && s < size ? stations[s] : null;
        }

        private Station withLogAt(int s) {
            Station st = at(s);
            return st != null && st.hasLog() ? st : null;
        }

        private int numberOf(long call) {
            for (int s = 0; s < size; s++) {
                if (stations[s].call == call) {
                    return s;
                }
            }
            return NONE;
        }
    }

    /** Reads the TAPE as a log, into rows of its own, so that a refusal leaves the old log as it was. */
    private static final class LogReader {
        private static final int DIGITS_OF_A_MOMENT = 10;
        private static final int DIGITS_OF_A_NUMBER = 5;

        private final Tape tape;
        private final Entry line = new Entry();
        private final int[] wrongLines = new int[Tape.LIMIT];
        private int wrongCount;
        private Log draft = new Log();

        private LogReader(Tape tape) {
            this.tape = tape;
        }

        /** False if there are more entries than a log may have. */
        private boolean readTape() {
            draft.size = 0;
            draft.missing = false;
            wrongCount = 0;
            int from = 0;
            for (int lineNumber = 0; from < tape.size && lineNumber < Tape.LIMIT; lineNumber++) {
                int to = tape.lineEnd(from);
                tape.startWords(from, to);
                if (!readLine()) {
                    addWrong(1000 * lineNumber + tape.wordStart - from);
                } else if (!draft.add(line)) {
                    return false;
                }
                from = to + 1;
            }
            return true;
        }

        private void addWrong(int lineAndPlace) {
            if (wrongCount < wrongLines.length) {
                wrongLines[wrongCount] = lineAndPlace;
                wrongCount++;
            }
        }

        /** If the line is wrong, the cursor is left on the word that is not as told. */
        private boolean readLine() {
            tape.nextWord();
            if (tape.wordIs("q")) {
                line.kind = CONTACT;
                return readContact();
            }
            if (tape.wordIs("r")) {
                line.kind = REST;
                return readRest();
            }
            line.kind = REMARK;
            return tape.wordIs("x");
        }

        private boolean readContact() {
            line.sent = NONE;
            line.got = NONE;
            if (!readMoment()) {
                return false;
            }
            tape.nextWord();
            line.call = tape.wordAsCall();
            if (line.call == NO_CALL) {
                return false;
            }
            if (!tape.nextWord()) {
                return true;
            }
            line.sent = (int) tape.wordAsNumber(DIGITS_OF_A_NUMBER);
            if (line.sent == NONE) {
                return false;
            }
            if (!tape.nextWord()) {
                return true;
            }
            line.got = (int) tape.wordAsNumber(DIGITS_OF_A_NUMBER);
            return line.got != NONE && !tape.nextWord();
        }

        private boolean readMoment() {
            tape.nextWord();
            line.moment = tape.wordAsNumber(DIGITS_OF_A_MOMENT);
            return line.moment != NONE;
        }

        private boolean readRest() {
            if (!readMoment()) {
                return false;
            }
            tape.nextWord();
            line.until = tape.wordAsNumber(DIGITS_OF_A_MOMENT);
            return line.until != NONE && !tape.nextWord();
        }
    }

    /** The RULE: its words as codes, in their order. A code from 0 on is a number. */
    private static final class Formula {
        private static final int MAX_WORDS = 30;
        private static final int MAX_DEPTH = 8;
        private static final int DIGITS_OF_A_NUMBER = 4;

        private static final int BAND = -1;
        private static final int KIND = -2;
        private static final int ZONE = -3;
        private static final int MINE = -4;
        private static final int FAR = -5;
        private static final int PLUS = -6;
        private static final int MINUS = -7;
        private static final int TIMES = -8;
        private static final int OVER = -9;
        private static final int CHOICE = -10;
        private static final int UNKNOWN = -11;

        private int[] codes = new int[MAX_WORDS];
        private int size;
        private int[] draft = new int[MAX_WORDS];
        private final int[] lacking = new int[MAX_DEPTH + 1];
        private int depth;
        private final long[] stack = new long[MAX_WORDS];
        private int top;

        private Formula() {
            codes[0] = 1;
            size = 1;
        }

        /** Answers as rule() does. */
        private int read(Tape tape) {
            tape.startWords(0, tape.size);
            depth = 0;
            lacking[0] = 1;
            int words = 0;
            while (words <= MAX_WORDS && tape.nextWord()) {
                if (words == MAX_WORDS || !addCode(words, codeOf(tape))) {
                    return -1 - tape.wordStart;
                }
                words++;
            }
            if (lacking[0] > 0) {
                return -1 - tape.size;
            }
            takeDraft(words);
            return words;
        }

        private void takeDraft(int words) {
            int[] old = codes;
            codes = draft;
            draft = old;
            size = words;
        }

        private static int codeOf(Tape tape) {
            long number = tape.wordAsNumber(DIGITS_OF_A_NUMBER);
            if (number != NONE) {
                return (int) number;
            }
            return tape.wordIs("band") ? BAND
                : tape.wordIs("kind") ? KIND
                : tape.wordIs("zone") ? ZONE
                : tape.wordIs("mine") ? MINE
                : tape.wordIs("far") ? FAR
                : tape.wordIs("+") ? PLUS
                : tape.wordIs("-") ? MINUS
                : tape.wordIs("*") ? TIMES
                : tape.wordIs("/") ? OVER
                : tape.wordIs("?") ? CHOICE
                : UNKNOWN;
        }

        private static int operandsOf(int code) {
            if (code == CHOICE) {
                return 3;
            }
            return code <= PLUS && code >= OVER ? 2 : 0;
        }

        /** False if the code may not stand behind those that were added. */
        private boolean addCode(int place, int code) {
            if (code == UNKNOWN || lacking[0] == 0 || !isBelow(place, MAX_WORDS)) {
                return false;
            }
            int operands = operandsOf(code);
            if (operands > 0) {
                if (depth >= MAX_DEPTH) {
                    return false;
                }
                depth++;
                lacking[depth] = operands;
            } else {
                endOperand();
            }
            draft[place] = code;
            return true;
        }

        /** The last operand of an operator ends that one too, as an operand of the one around it. */
        private void endOperand() {
            lacking[depth]--;
            while (depth > 0 && lacking[depth] == 0) {
                depth--;
                lacking[depth]--;
            }
        }

        /** POINTS of a contact of one's own with the other (0 without one), or DIVIDED_BY_0. */
        private long valueFor(int band, Station own, Station other) {
            if (other == null) {
                return 0;
            }
            top = 0;
            // From the last word back, the operands stand ready when their operator comes. One
            // that is divided by 0 is carried along, since a choice may still leave it out.
            for (int i = size - 1; i >= 0; i--) {
                int code = codes[i];
                push(operandsOf(code) > 0 ? workOperator(code) : plainValue(code, band, own, other));
            }
            return pop();
        }

        private void push(long value) {
            if (top < MAX_WORDS) {
                stack[top] = value;
                top++;
            }
        }

        private long pop() {
            if (top <= 0) {
                return 0;
            }
            top--;
            return stack[top];
        }

        private static int plainValue(int code, int band, Station own, Station other) {
            switch (code) {
                case BAND: return band;
                case KIND: return other.kind;
                case ZONE: return other.zone;
                case MINE: return own.zone;
                case FAR: return own.distanceTo(other);
                default: return code;
            }
        }

        private long workOperator(int code) {
            long first = pop();
            long second = pop();
            if (code == CHOICE) {
                long third = pop();
                return first == DIVIDED_BY_0 ? DIVIDED_BY_0 : first > 0 ? second : third;
            }
            if (first == DIVIDED_BY_0 || second == DIVIDED_BY_0) {
                return DIVIDED_BY_0;
            }
            int a = (int) first;
            int b = (int) second;
            switch (code) {
                case PLUS: return a + b;
                case MINUS: return a - b;
                case TIMES: return a * b;
                default: return b == 0 ? DIVIDED_BY_0 : a / b;
            }
        }
    }

    /** Finds by how much a station's clock is off. */
    private static final class Clocks {
        private static final int MAX_GAPS = BANDS * MAX_ENTRIES * MAX_ENTRIES;

        private final Roster roster;
        private final long[] gaps = new long[MAX_GAPS];
        private final int[] gapContacts = new int[MAX_GAPS];
        private int gapCount;
        private int contacts;

        private Clocks(Roster roster) {
            this.roster = roster;
        }

        private long offsetOf(int s, int window) {
            gatherGaps(s);
            if (mostAgreeBy(0, window)) {
                return 0;
            }
            // How many agree only grows, on the way out from 0, where some gap comes within the window.
            long best = 0;
            for (int g = 0; g < gapCount; g++) {
                long o = edgeTowardsZero(gaps[g], window);
                if (o != 0 && isNearer(o, best) && mostAgreeBy(o, window)) {
                    best = o;
                }
            }
            return best;
        }

        private static long edgeTowardsZero(long gap, int window) {
            if (gap > window) {
                return gap - window;
            }
            return gap < -window ? gap + window : 0;
        }

        private static boolean isNearer(long o, long best) {
            return best == 0 || Math.abs(o) < Math.abs(best) || Math.abs(o) == Math.abs(best) && o < best;
        }

        private void gatherGaps(int s) {
            gapCount = 0;
            contacts = 0;
            Station st = roster.at(s);
            for (int band = 0; band < BANDS && st != null; band++) {
                Log log = st.logOf(band);
                for (int i = 0; log != null && i < log.size; i++) {
                    Entry c = log.contactAt(i);
                    if (c != null && c.target != s) {
                        gatherGapsOf(c, s, band);
                    }
                }
            }
        }

        private void gatherGapsOf(Entry c, int s, int band) {
            Station other = roster.withLogAt(c.target);
            if (other == null) {
                return;
            }
            Log log = other.logOf(band);
            for (int j = 0; log != null && j < log.size; j++) {
                Entry d = log.contactAt(j);
                if (d != null && d.target == s && c.answersTo(d) && gapCount < MAX_GAPS) {
                    gaps[gapCount] = d.moment - c.moment;
                    gapContacts[gapCount] = contacts;
                    gapCount++;
                }
            }
            contacts++;
        }

        private boolean mostAgreeBy(long o, int window) {
            int agreeing = 0;
            int latest = NONE;
            for (int g = 0; g < gapCount; g++) {
                if (gapContacts[g] != latest && Math.abs(gaps[g] - o) <= window) {
                    latest = gapContacts[g];
                    agreeing++;
                }
            }
            return 2 * agreeing > contacts;
        }
    }

    /** Pairs the contacts of two stations on a band. */
    private static final class Pairing {
        /** More than all distances of a band's pairs together: one pair more outweighs them. */
        private static final int WORTH_OF_A_PAIR = 100000;

        private final int[][] worth = new int[MAX_ENTRIES][MAX_ENTRIES];
        private final int[][] best = new int[MAX_ENTRIES + 1][MAX_ENTRIES + 1];
        private final int[] order = new int[MAX_ENTRIES];
        private final int[] otherOrder = new int[MAX_ENTRIES];
        private int size;
        private int otherSize;
        private final boolean[] settled = new boolean[MAX_ENTRIES];
        private final boolean[] otherSettled = new boolean[MAX_ENTRIES];

        /** s is the lesser number; no contact of the two with one another is in a pair yet. */
        private void pairUp(Roster roster, int s, int t, int band, int window) {
            Station st = roster.at(s);
            Station other = roster.at(t);
            if (st == null || other == null) {
                return;
            }
            Log log = st.logOf(band);
            Log otherLog = other.logOf(band);
            if (log == null || otherLog == null) {
                return;
            }
            size = putInOrder(log, t, order, false);
            otherSize = putInOrder(otherLog, s, otherOrder, true);
            if (size == 0 || otherSize == 0) {
                return;
            }
            clearMeasures();
            measure(st, other, band, window);
            int wanted = bestOfUnsettled();
            for (int i = 0; i < log.size && wanted > 0; i++) {
                int j = firstMate(i, wanted);
                if (j != NONE) {
                    wanted -= worth[i][j];
                    setMate(log.contactAt(i), t, j);
                    setMate(otherLog.contactAt(j), s, i);
                }
            }
        }

        private static void setMate(Entry c, int station, int line) {
            if (c != null) {
                c.mateStation = station;
                c.mateLine = line;
            }
        }

        /**
         * Puts the lines of the contacts with the target into the order of the numbers that went
         * one way, then the other, then of the moments: the same order for both stations, so that
         * some best way crosses none of its pairs.
         */
        private static int putInOrder(Log log, int target, int[] into, boolean turned) {
            int found = 0;
            for (int i = 0; i < log.size && i < into.length; i++) {
                Entry c = log.contactAt(i);
                if (c == null || c.target != target || !c.isComplete()) {
                    continue;
                }
                int at = found;
                while (at > 0 && isAhead(c, log.contactAt(into[at - 1]), turned)) {
                    into[at] = into[at - 1];
                    at--;
                }
                into[at] = i;
                found++;
            }
            return found;
        }

        private static boolean isAhead(Entry c, Entry d, boolean turned) {
            if (d == null) {
                return false;
            }
            int bySent = Integer.compare(c.sent, d.sent);
            int byGot = Integer.compare(c.got, d.got);
            int first = turned ? byGot : bySent;
            int second = turned ? bySent : byGot;
            return first != 0 ? first < 0 : second != 0 ? second < 0 : c.moment < d.moment;
        }

        private void clearMeasures() {
            for (int i = 0; i < MAX_ENTRIES; i++) {
                settled[i] = false;
                otherSettled[i] = false;
                for (int j = 0; j < MAX_ENTRIES; j++) {
                    worth[i][j] = 0;
                }
            }
        }

        private void measure(Station st, Station other, int band, int window) {
            Log log = st.logOf(band);
            Log otherLog = other.logOf(band);
            for (int k = 0; k < size && log != null && otherLog != null; k++) {
                Entry c = log.contactAt(order[k]);
                for (int m = 0; m < otherSize && c != null; m++) {
                    Entry d = otherLog.contactAt(otherOrder[m]);
                    if (d == null || !c.answersTo(d)) {
                        continue;
                    }
                    long distance = Math.abs(st.putRight(c) - other.putRight(d));
                    if (distance <= window) {
                        worth[order[k]][otherOrder[m]] = WORTH_OF_A_PAIR - (int) distance;
                    }
                }
            }
        }

        /** The greatest worth that the pairs of the contacts that are not settled can have. */
        private int bestOfUnsettled() {
            for (int k = 0; k <= size; k++) {
                best[k][otherSize] = 0;
            }
            for (int m = 0; m <= otherSize; m++) {
                best[size][m] = 0;
            }
            for (int k = size - 1; k >= 0; k--) {
                int i = order[k];
                for (int m = otherSize - 1; m >= 0; m--) {
                    int j = otherOrder[m];
                    int value = Math.max(best[k + 1][m], best[k][m + 1]);
                    if (worth[i][j] > 0 && !settled[i] && !otherSettled[j]) {
                        value = Math.max(value, best[k + 1][m + 1] + worth[i][j]);
                    }
                    best[k][m] = value;
                }
            }
            return best[0][0];
        }

        /** Settles line i: with the first line that lets the rest come to what is wanted, or with none. */
        private int firstMate(int i, int wanted) {
            if (i < 0 || i >= MAX_ENTRIES) {
                return NONE;
            }
            settled[i] = true;
            for (int j = 0; j < MAX_ENTRIES; j++) {
                if (worth[i][j] == 0 || otherSettled[j]) {
                    continue;
                }
                otherSettled[j] = true;
                if (bestOfUnsettled() + worth[i][j] == wanted) {
                    return j;
                }
                otherSettled[j] = false;
            }
            return NONE;
        }
    }

    /** Works OFFSETS, PAIRS and WHY, and keeps them until a log, a station or the WINDOW is another. */
    private static final class Checker {
        private final Roster roster;
        private final Clocks clocks;
        private final Pairing pairing = new Pairing();
        private int window = 60;
        private boolean fresh;

        private Checker(Roster roster) {
            this.roster = roster;
            clocks = new Clocks(roster);
        }

        private void setWindow(int seconds) {
            window = seconds;
            fresh = false;
        }

        private void refresh() {
            if (fresh) {
                return;
            }
            fresh = true;
            for (int s = 0; s < roster.size; s++) {
                clearContacts(s);
            }
            for (int s = 0; s < roster.size; s++) {
                Station st = roster.at(s);
                if (st != null) {
                    st.offset = clocks.offsetOf(s, window);
                }
            }
            for (int s = 0; s < roster.size; s++) {
                for (int t = s + 1; t < roster.size; t++) {
                    for (int band = 0; band < BANDS; band++) {
                        pairing.pairUp(roster, s, t, band, window);
                    }
                }
            }
            for (int s = 0; s < roster.size; s++) {
                explainContacts(s);
            }
        }

        private void clearContacts(int s) {
            Station st = roster.at(s);
            for (int band = 0; band < BANDS && st != null; band++) {
                Log log = st.logOf(band);
                for (int i = 0; log != null && i < log.size; i++) {
                    Entry c = log.contactAt(i);
                    if (c != null) {
                        c.target = roster.numberOf(c.call);
                        c.mateStation = NONE;
                    }
                }
            }
        }

        private void explainContacts(int s) {
            Station st = roster.at(s);
            for (int band = 0; band < BANDS && st != null; band++) {
                Log log = st.logOf(band);
                for (int i = 0; log != null && i < log.size; i++) {
                    Entry c = log.contactAt(i);
                    if (c != null) {
                        c.meant = mayBeMisheard(c) ? stationMeant(c, s, band) : NONE;
                        c.why = c.isPaired() && isDupe(c, log, i) ? WHY_DUPE : explain(c, s);
                    }
                }
            }
        }

        private static boolean mayBeMisheard(Entry c) {
            return c.target == NONE && c.isComplete();
        }

        private static boolean isDupe(Entry c, Log log, int line) {
            for (int i = 0; i < log.size; i++) {
                Entry other = log.contactAt(i);
                if (other == null || other.mateStation != c.mateStation) {
                    continue;
                }
                if (other.moment < c.moment || other.moment == c.moment && i < line) {
                    return true;
                }
            }
            return false;
        }

        /** WHY of a contact that is no DUPE. */
        private int explain(Entry c, int s) {
            if (c.isPaired()) {
                return WHY_PAIRED;
            }
            if (!c.isComplete()) {
                return WHY_SHORT;
            }
            if (c.target == NONE) {
                return c.meant != NONE ? WHY_MISHEARD : isUnique(c.call) ? WHY_UNIQUE : WHY_ELSE;
            }
            return c.target != s && roster.withLogAt(c.target) != null ? WHY_NOT_LOGGED : WHY_ELSE;
        }

        private int stationMeant(Entry c, int s, int band) {
            int meant = NONE;
            long earliest = NEVER;
            for (int t = 0; t < roster.size; t++) {
                Station other = roster.at(t);
                if (t == s || other == null || !c.isMisheardFrom(other.call)) {
                    continue;
                }
                long answer = earliestAnswer(c, s, other, band);
                if (answer < earliest) {
                    earliest = answer;
                    meant = t;
                }
            }
            return meant;
        }

        /** The moment, put right, of the first contact in no pair by which the other answers c; NEVER if there is none. */
        private long earliestAnswer(Entry c, int s, Station other, int band) {
            Station st = roster.at(s);
            Log log = other.logOf(band);
            long earliest = NEVER;
            for (int j = 0; st != null && log != null && j < log.size; j++) {
                Entry d = log.contactAt(j);
                if (d == null || d.target != s || d.isPaired() || !c.answersTo(d)) {
                    continue;
                }
                long answer = other.putRight(d);
                if (Math.abs(st.putRight(c) - answer) <= window) {
                    earliest = Math.min(earliest, answer);
                }
            }
            return earliest;
        }

        private boolean isUnique(long call) {
            int stations = 0;
            for (int s = 0; s < roster.size; s++) {
                Station st = roster.at(s);
                if (st != null && st.holdsCall(call)) {
                    stations++;
                }
            }
            return stations < 3;
        }
    }

    /** Works TOTALS, from what the latest check found. */
    private static final class Scores {
        private final Roster roster;
        private final Formula formula;
        private int penalty;

        private Scores(Roster roster, Formula formula) {
            this.roster = roster;
            this.formula = formula;
        }

        /** The TOTAL, an int, or DIVIDED_BY_0. A TEAM adds nothing of its own to what its members have. */
        private long totalOf(int s) {
            int sum = 0;
            for (int t = 0; t < roster.size; t++) {
                Station part = roster.at(t);
                if (part == null || t != s && part.team != s) {
                    continue;
                }
                long value = ownTotal(part);
                if (value == DIVIDED_BY_0) {
                    return DIVIDED_BY_0;
                }
                sum += (int) value;
            }
            return sum;
        }

        private long ownTotal(Station st) {
            long sum = checkedSum(st, st.kind == PORTABLE ? 2 : 1);
            if (sum == DIVIDED_BY_0) {
                return DIVIDED_BY_0;
            }
            switch (st.kind) {
                case SINGLE: return sum;
                case MULTI: return twoThirds((int) sum);
                case PORTABLE: return twoThirds((int) sum) + 50;
                default: return 0;
            }
        }

        private static int twoThirds(int sum) {
            return sum * 2 / 3;
        }

        private long checkedSum(Station st, int worthOfAPoint) {
            int worth = 0;
            int zones = 0;
            for (int band = 0; band < BANDS; band++) {
                Log log = st.logOf(band);
                long zonesOfBand = 0;
                for (int i = 0; log != null && i < log.size; i++) {
                    Entry c = log.contactAt(i);
                    Station other = c != null && c.why == WHY_PAIRED ? roster.at(c.target) : null;
                    if (other == null) {
                        continue;
                    }
                    long points = formula.valueFor(band, st, other);
                    if (points == DIVIDED_BY_0) {
                        return DIVIDED_BY_0;
                    }
                    worth += worthOfAPoint * (int) points;
                    zonesOfBand |= 1L << other.zone;
                }
                zones += Long.bitCount(zonesOfBand);
            }
            return worth * zones - penalty * st.contactsWithWhy(WHY_MISHEARD);
        }
    }
}
