/** Promises 6 (log) and 7 (wrong). */
public final class LogTest {
    private static final Due DUE = new Due("LogTest");

    private static ContactHouse house() {
        ContactHouse h = new ContactHouse();
        Due.station(h, "A");
        Due.station(h, "T", 4, 0, 0, 0);
        return h;
    }

    /** The place of the one wrong line, or -1 if the line is right. */
    private static void line(String line, int place) {
        ContactHouse h = house();
        int entries = Due.log(h, 0, 0, line + "\n");
        DUE.is("entries of '" + line + "'", entries, place < 0 ? 1 : 0);
        DUE.is("place of '" + line + "'", h.wrong(0), place);
    }

    private static void rightLines() {
        for (String line : new String[] {
            "q 0 A", "q 9999999999 ABCDEF", "q 0000000000 0", "q 1 A 0", "q 1 A 99999 00000", "r 0 0", "r 9999999999 1", "x", "x ",
            "x q 1", "  q   1  A   1   2  ", " r 1 2 ", "  x", "x \u00ff\1"}) {
            line(line, -1);
        }
    }

    private static void wrongLines() {
        line("", 0);
        line("   ", 3);
        line("z", 0);
        line("  z 1", 2);
        line("Q 1 A", 0);
        line("qq 1 A", 0);
        line("xx", 0);
        line("rx 1 2", 0);
        line("\tq 1 A", 0);
        line("q", 1);
        line("q  ", 3);
        line("q 1", 3);
        line("q 1 ", 4);
        line("q a A", 2);
        line("q -1 A", 2);
        line("q 12345678901 A", 2);
        line("q 1 a", 4);
        line("q 1 ABCDEFG", 4);
        line("q 1 A,", 4);
        line("q 1 A x", 6);
        line("q 1 A 123456", 6);
        line("q 1 A 1 x", 8);
        line("q 1 A 1 123456", 8);
        line("q 1 A 1 2 3", 10);
        line("q 1 A 1 2  3 4", 11);
        line("q a a x y z", 2);
        line("r", 1);
        line("r 1", 3);
        line("r 1  ", 5);
        line("r x 1", 2);
        line("r 1 x", 4);
        line("r 1 12345678901", 4);
        line("r 1 2 3", 6);
    }

    private static void linesAndTape() {
        ContactHouse h = house();
        DUE.is("an empty tape", h.log(0, 0), 0);
        DUE.is("it has no wrong line", h.count(2), 0);
        DUE.ask(h, "the log is there", h.lines(0, 0), 0, 0);
        Due.feed(h, "\n");
        DUE.is("one empty line", h.log(0, 0), 0);
        DUE.is("it is wrong", h.count(2), 1);
        DUE.is("at 0", h.wrong(0), 0);
        Due.feed(h, "x\n\nq\nx\n");
        DUE.is("no line behind the last 10", h.log(0, 0), 2);
        DUE.is("two wrong lines", h.count(2), 2);
        DUE.is("line 1", h.wrong(0), 1000);
        DUE.is("line 2", h.wrong(1), 2001);
        DUE.is("no third", h.wrong(2), -1);
        DUE.is("wrong(-1)", h.wrong(-1), -1);
        Due.feed(h, "x\n ");
        DUE.is("a blank behind the last 10", h.log(0, 0), 1);
        DUE.is("is a wrong line", h.wrong(0), 1001);
        DUE.is("the tape is empty", h.count(1), 0);
    }

    private static void thousandLines() {
        ContactHouse h = house();
        Due.feed(h, "\n".repeat(1000));
        DUE.is("1000 empty lines", h.log(0, 2), 0);
        DUE.is("are all wrong", h.count(2), 1000);
        DUE.is("the last one", h.wrong(999), 999000);
        DUE.is("none behind it", h.wrong(1000), -1);
        Due.feed(h, " ".repeat(1000));
        DUE.is("1000 blanks", h.log(0, 2), 0);
        DUE.is("one line, wrong at its length", h.wrong(0), 1000);
    }

    private static void refusals() {
        ContactHouse h = house();
        DUE.is("a log", Due.log(h, 0, 1, "x", "q", "r 3 4"), 2);
        int[][] off = {{2, 0, -1}, {-1, 0, -1}, {0, 3, -1}, {0, -1, -1}, {1, 3, -1}, {1, 0, -2}};
        for (int[] n : off) {
            DUE.is("a wrong line ahead", Due.log(h, 0, 2, "q"), 0);
            DUE.is("which is kept", h.count(2), 1);
            DUE.is("log(" + n[0] + ", " + n[1] + ")", Due.log(h, n[0], n[1], "q", "x"), n[2]);
            DUE.is("the tape is empty then", h.count(1), 0);
            DUE.is("there are no wrong lines", h.count(2), 0);
            DUE.is("wrong(0)", h.wrong(0), -1);
        }
        DUE.is("16 entries", Due.log(h, 0, 0, ("q\n" + "x\n".repeat(16)).split("\n")), 16);
        DUE.is("17 entries", Due.log(h, 0, 1, ("q\n" + "x\n".repeat(17)).split("\n")), -3);
        DUE.is("the tape is empty then", h.count(1), 0);
        DUE.is("there are no wrong lines", h.count(2), 0);
        DUE.is("the log stays", h.lines(0, 1), 2);
        DUE.is("and its lines", h.moment(0, 1, 1, 1), 4);
        DUE.is("the next log", Due.log(h, 0, 1, "q 7 A"), 1);
        DUE.is("is there instead", h.lines(0, 1), 1);
        DUE.is("with its line", h.moment(0, 1, 0, 0), 7);
        DUE.is("another band's stays", h.lines(0, 0), 16);
    }

    /** A new log is checked, not the one that stood there. */
    private static void instead() {
        ContactHouse h = new ContactHouse();
        Due.station(h, "A");
        Due.station(h, "B");
        Due.log(h, 0, 0, "q 1 B 1 2");
        Due.log(h, 1, 0, "q 1 A 2 1");
        DUE.is("a pair", h.pair(0, 0, 0), 100);
        Due.log(h, 1, 0, "q 1 A 2 3");
        DUE.is("none", h.pair(0, 0, 0), -1);
        Due.log(h, 1, 0, "x", "q 1 A 2 1");
        DUE.is("a pair again", h.pair(0, 0, 0), 101);
    }

    public static void main(String[] args) {
        rightLines();
        wrongLines();
        linesAndTape();
        thousandLines();
        refusals();
        instead();
        DUE.end();
    }
}
