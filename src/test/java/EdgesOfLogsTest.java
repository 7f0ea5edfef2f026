/** A log of section 2 and promises 6 (log) and 7 (wrong), a sentence at a time. */
public final class EdgesOfLogsTest {
    private static final Due DUE = new Due("EdgesOfLogsTest");
    private static final int TEAM = 1;
    private static final int RIGHT = -1;

    private static ContactHouse house() {
        ContactHouse h = Due.houseOf("A");
        Due.station(h, "T", 4, 0, 0, 0);
        return h;
    }

    /** A line alone: its place if it is wrong, or RIGHT. */
    private static void line(String line, int place) {
        ContactHouse h = house();
        Due.feed(h, line);
        DUE.is("entries of '" + line + "'", h.log(0, 0), place == RIGHT ? 1 : 0);
        DUE.is("wrong lines of '" + line + "'", h.count(2), place == RIGHT ? 0 : 1);
        DUE.is("place of '" + line + "'", h.wrong(0), place);
    }

    private static void blanks() {
        DUE.by("WORDS are separated by blanks (32).");
        for (int b = 0; b < 256; b++) {
            if (b != 10) {
                line("q" + (char) b + "1 A", b == 32 ? RIGHT : 0);
                line("q 1" + (char) b + "A", b == 32 ? RIGHT : 2);
                line((char) b + "q 1 A", b == 32 ? RIGHT : 0);
                boolean isDigit = b >= '0' && b <= '9';
                line("q 1 A 2 " + (char) b, b == 32 || isDigit ? RIGHT : 8);
                line("r 1 2 " + (char) b, b == 32 ? RIGHT : 6);
            }
        }
        line("   q   1   A   2   3   ", RIGHT);
        line(" ".repeat(986) + "q 1 ABCDEF 2 3", RIGHT);
    }

    private static void linesEnd() {
        DUE.by("A LOG is read line by line; a line ends ahead of a byte 10 or at the end of the TAPE");
        ContactHouse h = house();
        Due.feed(h, "q 1 A 12\n3\nq 2 B");
        DUE.is("entries", h.log(0, 0), 2);
        DUE.is("the number ends with its line", h.number(0, 0, 0, 0), 12);
        DUE.is("the next one is a line of its own", h.wrong(0), 1000);
        DUE.is("the last one ends with the tape", h.character(0, 0, 1, 0), 'B');
        Due.feed(h, "q 1 A\r\nx\r");
        DUE.is("a byte 13 ends none", h.log(0, 0), 0);
        DUE.is("it is of the word", h.wrong(0), 4);
        DUE.is("it is of the last word", h.wrong(1), 1000);
    }

    private static void behindTheLastTen() {
        DUE.by("(behind the last 10 there is a line only if something is there).");
        String[] tapes = {"x\n", "x\n ", "x\n\n", "\n", "\n\n", "x\nx", "x\n\0", ""};
        int[][] dues = {{1, 0}, {1, 1}, {1, 1}, {0, 1}, {0, 2}, {2, 0}, {1, 1}, {0, 0}};
        int[] lasts = {-1, 1001, 1000, 0, 1000, -1, 1000, -1};
        for (int n = 0; n < tapes.length; n++) {
            ContactHouse h = house();
            Due.feed(h, tapes[n]);
            DUE.is("entries of tape " + n, h.log(0, 0), dues[n][0]);
            DUE.is("wrong lines of tape " + n, h.count(2), dues[n][1]);
            DUE.is("the last of tape " + n, h.wrong(h.count(2) - 1), lasts[n]);
        }
    }

    private static void contacts() {
        DUE.by("Each line that is right is an ENTRY: a CONTACT: \"q\", a MOMENT (seconds), a CALL,"
            + " and perhaps the number SENT, and perhaps behind that the number GOT (a line may end early);");
        ContactHouse h = house();
        DUE.is("three contacts", Due.log(h, 0, 0, "q 5 B", "q 6 C 7", "q 8 D 0 9"), 3);
        DUE.ask(h, "the first", h.entry(0, 0, 0), 0, 0);
        DUE.ask(h, "it ends behind its call", h.number(0, 0, 0, 0), 0, 2);
        DUE.ask(h, "sent", h.number(0, 0, 1, 0), 7, 0);
        DUE.ask(h, "it ends behind what was sent", h.number(0, 0, 1, 1), 0, 2);
        DUE.ask(h, "0 was sent", h.number(0, 0, 2, 0), 0, 0);
        DUE.ask(h, "got", h.number(0, 0, 2, 1), 9, 0);
        line("Q 5 B", 0);
        line("qq 5 B", 0);
        line("q5 B", 0);
        line("q B 5", 2);
    }

    private static void rests() {
        DUE.by("a REST: \"r\" and two MOMENTS;");
        ContactHouse h = house();
        DUE.is("a rest, and one that ends ahead of its begin", Due.log(h, 0, 0, "r 5 7", "r 7 5"), 2);
        DUE.ask(h, "an entry of its own", h.entry(0, 0, 0), 1, 0);
        DUE.ask(h, "its first", h.moment(0, 0, 1, 0), 7, 0);
        DUE.ask(h, "its second", h.moment(0, 0, 1, 1), 5, 0);
        line("R 5 7", 0);
        line("r 5", 3);
        line("r 5 B", 4);
    }

    private static void remarks() {
        DUE.by("a REMARK: \"x\" and anything.");
        for (int b = 0; b < 256; b++) {
            if (b != 10) {
                line("x " + (char) b + (char) b + " " + (char) b, RIGHT);
            }
        }
        line("x", RIGHT);
        line("x q", RIGHT);
        line("xx", 0);
        line("X", 0);
        ContactHouse h = house();
        Due.log(h, 0, 0, "x");
        DUE.ask(h, "an entry of its own", h.entry(0, 0, 0), 2, 0);
    }

    private static void digitsOfMoments() {
        DUE.by("A MOMENT is 1 to 10 digits,");
        line("q 0 A", RIGHT);
        line("q 0000000000 A", RIGHT);
        line("q 9999999999 A", RIGHT);
        line("q 00000000000 A", 2);
        line("q 10000000000 A", 2);
        line("r 0 0000000009", RIGHT);
        line("r 9999999999 0", RIGHT);
        line("r 00000000000 0", 2);
        line("r 0 00000000000", 4);
        for (String off : new String[] {"/", ":", "-1", "+1", "1.", "1a", "a1", "\u00b2", "\0"}) {
            line("q " + off + " A", 2);
            line("r " + off + " 1", 2);
            line("r 1 " + off, 4);
        }
        ContactHouse h = house();
        Due.log(h, 0, 0, "q 9999999999 A", "q 2147483648 A", "q 4294967296 A", "r 0000000001 9999999999");
        DUE.is("ten digits", h.moment(0, 0, 0, 0), 9999999999L);
        DUE.is("one above the greatest int", h.moment(0, 0, 1, 0), 2147483648L);
        DUE.is("one above 32 bits", h.moment(0, 0, 2, 0), 4294967296L);
        DUE.is("digits 0 ahead", h.moment(0, 0, 3, 0), 1);
        DUE.is("ten digits of a rest", h.moment(0, 0, 3, 1), 9999999999L);
    }

    private static void digitsOfNumbers() {
        DUE.by("SENT and GOT are 1 to 5 digits.");
        line("q 1 A 0 0", RIGHT);
        line("q 1 A 99999 00000", RIGHT);
        line("q 1 A 00000 99999", RIGHT);
        line("q 1 A 000000", 6);
        line("q 1 A 100000 1", 6);
        line("q 1 A 1 000000", 8);
        line("q 1 A 1 100000", 8);
        for (String off : new String[] {"/", ":", "-1", "1a", "A", "\0"}) {
            line("q 1 A " + off, 6);
            line("q 1 A 1 " + off, 8);
        }
        ContactHouse h = house();
        Due.log(h, 0, 0, "q 1 A 99999 00007");
        DUE.is("five digits", h.number(0, 0, 0, 0), 99999);
        DUE.is("digits 0 ahead", h.number(0, 0, 0, 1), 7);
    }

    private static void leftOut() {
        DUE.by("A line that is wrong is left out;");
        ContactHouse h = house();
        DUE.is("entries", Due.log(h, 0, 0, "q", "q 1 A", "", "q 2 B x", "q 3 C", "z"), 2);
        DUE.is("line 0", h.moment(0, 0, 0, 0), 1);
        DUE.is("line 1", h.moment(0, 0, 1, 0), 3);
        DUE.ask(h, "line 2", h.moment(0, 0, 2, 0), 0, 2);
        DUE.is("nothing is left of a wrong line", Due.log(h, 0, 0, "q 1 A 5 6", "q 2 B 7 x", "q 3 C", "q 4 D 8"), 3);
        DUE.ask(h, "sent", h.number(0, 0, 1, 0), 0, 2);
        DUE.ask(h, "got", h.number(0, 0, 2, 1), 0, 2);
        DUE.is("all are wrong", Due.log(h, 0, 0, "q", "q"), 0);
        DUE.ask(h, "a log all the same", h.lines(0, 0), 0, 0);
    }

    private static void firstWrongWord() {
        DUE.by("its PLACE is that of the first byte of the first word in it that is not as told (from 0 in the line;");
        line("z", 0);
        line("   z", 3);
        line("z a a a a a", 0);
        line("q a a a a a", 2);
        line("q   a", 4);
        line("q 1 a a a a", 4);
        line("q 1 ABCDEFG", 4);
        line("q 1 A a a a", 6);
        line("q 1 A 1 a a", 8);
        line("  q  1  A  1  a", 14);
        line("r a a a", 2);
        line("r 1 a a", 4);
        ContactHouse h = house();
        Due.log(h, 0, 0, "x " + "y".repeat(500), "  q  a");
        DUE.is("from 0 in its own line", h.wrong(0), 1005);
    }

    private static void oneLacks() {
        DUE.by("its length, if one lacks;");
        line("q", 1);
        line("q   ", 4);
        line("   q", 4);
        line("q 1", 3);
        line("q 1  ", 5);
        line("r", 1);
        line("r  ", 3);
        line("r 1", 3);
        line("r 1   ", 6);
        line("r" + " ".repeat(999), 1000);
        ContactHouse h = house();
        Due.log(h, 0, 0, "q", "r 1", "x", "q 22");
        DUE.is("the first line's", h.wrong(0), 1);
        DUE.is("the second line's", h.wrong(1), 1003);
        DUE.is("the last line's", h.wrong(2), 3004);
    }

    private static void wordTooMuch() {
        DUE.by("a word too much is not as told;");
        line("q 1 A 2 3 4", 10);
        line("q 1 A 2 3    4 5", 13);
        line("q 1 A 2 3 x", 10);
        line("r 1 2 3", 6);
        line("r 1 2   3 4", 8);
        line("x 1 2 3 4 5 6", RIGHT);
        line("q 1 A 2 3 ", RIGHT);
        line("r 1 2 ", RIGHT);
    }

    private static void noWords() {
        DUE.by("a line without words is wrong at its length).");
        line("\n", 0);
        line(" ", 1);
        line("    \n", 4);
        line(" ".repeat(1000), 1000);
        line(" ".repeat(999) + "\n", 999);
    }

    private static void insteadOfOne() {
        DUE.by("The TAPE is the log of a band of station s, instead of one that it had. Answers how many ENTRIES.");
        ContactHouse h = Due.houseOf("A", "B");
        for (int n = 0; n <= 16; n++) {
            DUE.is(n + " entries", Due.log(h, 0, 1, "x\n".repeat(n)), n);
            DUE.is("lines", h.lines(0, 1), n);
        }
        DUE.is("16 and 900 wrong lines", Due.log(h, 0, 1, "\n".repeat(900) + "x\n".repeat(16)), 16);
        DUE.is("fewer than it had", Due.log(h, 0, 1, "r 3 4"), 1);
        DUE.ask(h, "its line", h.moment(0, 1, 0, 1), 4, 0);
        DUE.ask(h, "a line that it had", h.entry(0, 1, 1), 0, 2);
        DUE.ask(h, "another band has none", h.lines(0, 0), 0, 1);
        DUE.ask(h, "another station has none", h.lines(1, 1), 0, 1);
    }

    private static void noSuchLog() {
        DUE.by("-1: no such station or band;");
        ContactHouse h = house();
        for (int off : new int[] {-1, Integer.MIN_VALUE, Integer.MAX_VALUE, 3}) {
            DUE.is("station " + off, Due.log(h, off, 0, "x"), -1);
            DUE.is("band " + off, Due.log(h, 0, off, "x"), -1);
            DUE.is("band " + off + " of a team", Due.log(h, TEAM, off, "x"), -1);
            DUE.is("station " + off + " ahead of 17 entries", Due.log(h, off, 0, "x\n".repeat(17)), -1);
        }
        DUE.is("the station behind the last one", Due.log(h, 2, 0, "x"), -1);
        DUE.is("of no stations", Due.log(new ContactHouse(), 0, 0, "x"), -1);
    }

    private static void aTeam() {
        DUE.by("-2: a TEAM;");
        ContactHouse h = house();
        DUE.is("a team", Due.log(h, TEAM, 0, "x"), -2);
        DUE.is("a team, an empty tape", Due.log(h, TEAM, 2, ""), -2);
        DUE.is("a team ahead of 17 entries", Due.log(h, TEAM, 0, "x\n".repeat(17)), -2);
    }

    private static void tooMany() {
        DUE.by("-3: there would be more than 16 ENTRIES.");
        ContactHouse h = house();
        DUE.is("16", Due.log(h, 0, 0, "x\n".repeat(16)), 16);
        DUE.is("17", Due.log(h, 0, 0, "x\n".repeat(17)), -3);
        DUE.is("500", Due.log(h, 0, 0, "x\n".repeat(500)), -3);
        DUE.is("16 and a wrong one", Due.log(h, 0, 0, "x\n".repeat(16) + "q"), 16);
        DUE.is("16, a wrong one and one more", Due.log(h, 0, 0, "x\n".repeat(16) + "q\nx"), -3);
        DUE.is("17 contacts", Due.log(h, 0, 0, "q 1 A\n".repeat(17)), -3);
        DUE.is("17 rests", Due.log(h, 0, 0, "r 1 1\n".repeat(17)), -3);
    }

    private static void tapeBehind() {
        DUE.by("(The TAPE is empty then in any case;");
        ContactHouse h = house();
        int[][] calls = {{0, 0, 1}, {5, 0, -1}, {0, 5, -1}, {TEAM, 0, -2}};
        for (int[] n : calls) {
            DUE.is("log", Due.log(h, n[0], n[1], "x", "q"), n[2]);
            DUE.is("the tape behind " + n[2], h.count(1), 0);
        }
        DUE.is("log", Due.log(h, 0, 0, "x\n".repeat(17)), -3);
        DUE.is("the tape behind -3", h.count(1), 0);
        DUE.is("nothing is left of it", h.end(1), -1);
    }

    /** Refuses a log of each kind; what it held would show in the log that stands there. */
    private static int refuse(ContactHouse h, int kind) {
        String tape = "z\nr 8 9\nq 1\n" + "q 7 C 6 5\n".repeat(17);
        switch (kind) {
            case 0: return Due.log(h, 0, 3, tape);
            case 1: return Due.log(h, 9, 0, tape);
            case 2: return Due.log(h, TEAM, 0, tape);
            default: return Due.log(h, 0, 0, tape);
        }
    }

    private static void refusedLogStays() {
        DUE.by("with a refusal the log stays as it was,");
        int[] answers = {-1, -1, -2, -3};
        for (int kind = 0; kind < 4; kind++) {
            ContactHouse h = house();
            DUE.is("refused", refuse(h, kind), answers[kind]);
            DUE.ask(h, "it stays missing", h.lines(0, 0), 0, 1);
            DUE.ask(h, "the station has no log", h.offset(0), 0, 7);
            DUE.is("a log", Due.log(h, 0, 0, "q 1 B 2 3", "r 4 5"), 2);
            DUE.is("refused", refuse(h, kind), answers[kind]);
            DUE.is("its lines", h.lines(0, 0), 2);
            DUE.is("its contact", h.moment(0, 0, 0, 0), 1);
            DUE.is("its call", h.character(0, 0, 0, 0), 'B');
            DUE.is("its number", h.number(0, 0, 0, 1), 3);
            DUE.is("its rest", h.moment(0, 0, 1, 1), 5);
        }
    }

    private static void refusedLogHasNoWrongLines() {
        DUE.by("and there are no wrong lines.)");
        int[] answers = {-1, -1, -2, -3};
        for (int kind = 0; kind < 4; kind++) {
            ContactHouse h = house();
            Due.log(h, 0, 0, "q", "q");
            DUE.is("two ahead", h.count(2), 2);
            DUE.is("refused", refuse(h, kind), answers[kind]);
            DUE.is("count(2)", h.count(2), 0);
            DUE.is("wrong(0)", h.wrong(0), -1);
        }
    }

    private static void wrongLines() {
        DUE.by("The i-th (from 0) wrong line of the latest call of log():"
            + " 1000 times the number of the line (of all lines, from 0) and its PLACE.");
        ContactHouse h = house();
        Due.log(h, 0, 0, "x", "q", "x", "", "q 1 A x");
        DUE.is("wrong(0)", h.wrong(0), 1001);
        DUE.is("wrong(1)", h.wrong(1), 3000);
        DUE.is("wrong(2)", h.wrong(2), 4006);
        Due.log(h, 0, 1, "r");
        DUE.is("of the latest call", h.wrong(0), 1);
        DUE.is("it has one", h.count(2), 1);
        Due.feed(h, "\n".repeat(1000));
        h.log(0, 0);
        DUE.is("1000 wrong lines", h.count(2), 1000);
        DUE.is("the last of 1000", h.wrong(999), 999000);
        Due.rule(h, "z");
        h.station(0, 0, 0, 0);
        DUE.is("other calls that read the tape leave them", h.count(2), 1000);
    }

    private static void noneSuch() {
        DUE.by("-1 if there is none such.");
        ContactHouse h = house();
        DUE.is("ahead of the first log", h.wrong(0), -1);
        Due.log(h, 0, 0, "q", "q");
        for (int off : new int[] {2, -1, 1000, Integer.MIN_VALUE, Integer.MAX_VALUE}) {
            DUE.is("wrong(" + off + ") of 2", h.wrong(off), -1);
        }
        Due.log(h, 0, 0, "x");
        DUE.is("behind a log without one", h.wrong(0), -1);
        Due.feed(h, "\n".repeat(1000));
        h.log(0, 0);
        DUE.is("wrong(1000) of 1000", h.wrong(1000), -1);
    }

    public static void main(String[] args) {
        blanks();
        linesEnd();
        behindTheLastTen();
        contacts();
        rests();
        remarks();
        digitsOfMoments();
        digitsOfNumbers();
        leftOut();
        firstWrongWord();
        oneLacks();
        wordTooMuch();
        noWords();
        insteadOfOne();
        noSuchLog();
        aTeam();
        tooMany();
        tapeBehind();
        refusedLogStays();
        refusedLogHasNoWrongLines();
        wrongLines();
        noneSuch();
        DUE.end();
    }
}
