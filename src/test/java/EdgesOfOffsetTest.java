/** THE OFFSET of section 3 and promise 16 (offset), a sentence at a time. */
public final class EdgesOfOffsetTest {
    private static final Due DUE = new Due("EdgesOfOffsetTest");

    private static ContactHouse house(int window, String mine, String theirs) {
        ContactHouse h = Due.houseOf("A", "B", "C");
        Due.station(h, "T", 4, 0, 0, 0);
        h.window(window);
        Due.log(h, 0, 0, mine);
        Due.log(h, 1, 0, theirs);
        return h;
    }

    private static void offset(String what, int window, String mine, String theirs, long want) {
        ContactHouse h = house(window, mine, theirs);
        DUE.ask(h, what, h.offset(0), want, 0);
    }

    /** Three contacts of A, of which two would agree by 50; each line more is one that counts, or not. */
    private static void countedWith(String line, boolean counts) {
        String mine = "q 100 B 1 1\nq 200 B 2 2\nq 300 B 3 3\n" + line;
        offset("with '" + line + "'", 0, mine, "q 150 A 1 1\nq 250 A 2 2", counts ? 0 : 50);
    }

    private static void whichCount() {
        DUE.by("THE OFFSET of S: let N be how many contacts S has (on all bands) whose CALL is that of another station with a log,");
        countedWith("", false);
        countedWith("q 400 B 4 4", true);
        countedWith("q 400 B 4", true);
        countedWith("q 400 B", true);
        countedWith("q 400 A 4 4", false);
        countedWith("q 400 C 4 4", false);
        countedWith("q 400 T 4 4", false);
        countedWith("q 400 Z 4 4", false);
        countedWith("r 400 400", false);
        countedWith("x B", false);
        for (int band = 0; band < 3; band++) {
            ContactHouse h = house(0, "q 100 B 1 1\nq 200 B 2 2\nq 300 B 3 3\nq 400 C 4 4", "q 150 A 1 1\nq 250 A 2 2");
            Due.log(h, 2, band, "");
            DUE.ask(h, "the other one has an empty log of band " + band, h.offset(0), 0, 0);
        }
        for (int band = 1; band < 3; band++) {
            ContactHouse h = house(0, "q 100 B 1 1\nq 200 B 2 2\nq 300 B 3 3", "q 150 A 1 1\nq 250 A 2 2");
            Due.log(h, 0, band, "q 400 B 4 4");
            DUE.ask(h, "one more on band " + band, h.offset(0), 0, 0);
        }
    }

    private static void howManyAgree() {
        DUE.by("and A(o) how many of them AGREE by o and 0 with some contact of that station.");
        String two = "q 100 B 1 1\nq 200 B 2 2";
        offset("one of two, with three contacts", 5, two, "q 150 A 1 1\nq 151 A 1 1\nq 152 A 1 1", 0);
        offset("two with one contact", 5, "q 100 B 1 1\nq 101 B 1 1", "q 150 A 1 1", 45);
        offset("numbers that are not as they should be", 0, "q 100 B 1 2", "q 150 A 1 2", 0);
        offset("numbers that lack there", 0, "q 100 B 1 2", "q 150 A 2", 0);
        offset("numbers that lack on both sides", 0, "q 100 B", "q 150 A", 0);
        offset("a number that lacks on both sides", 0, "q 100 B 1", "q 150 A 1", 0);
        offset("a call that is not its own", 0, "q 100 B 1 2", "q 150 C 2 1", 0);
        ContactHouse h = house(0, "x", "x");
        Due.log(h, 0, 1, "q 100 B 1 1");
        Due.log(h, 0, 2, "q 200 B 2 2");
        Due.log(h, 1, 1, "q 150 A 1 1");
        Due.log(h, 1, 2, "q 250 A 2 2");
        DUE.ask(h, "of all bands", h.offset(0), 50, 0);
        Due.log(h, 1, 1, "q 250 A 2 2");
        Due.log(h, 1, 2, "q 150 A 1 1");
        DUE.ask(h, "of other bands", h.offset(0), 0, 0);
    }

    private static void severalStations() {
        DUE.by("and A(o) how many of them AGREE by o and 0 with some contact of that station.");
        ContactHouse h = house(0, "q 100 B 1 1\nq 200 C 2 2\nq 300 C 3 3", "q 150 A 1 1");
        Due.log(h, 2, 0, "q 250 A 2 2");
        DUE.ask(h, "two of three, of two stations", h.offset(0), 50, 0);
        Due.log(h, 1, 0, "q 150 A 1 1", "q 250 A 2 2");
        Due.log(h, 2, 0, "x");
        DUE.ask(h, "of another station's", h.offset(0), 0, 0);
    }

    /** B's clock goes by C's, C's by B's: the OFFSET that B has itself is not looked at. */
    private static void byZeroOfTheOther() {
        DUE.by("and A(o) how many of them AGREE by o and 0 with some contact of that station.");
        ContactHouse h = house(10, "q 100 B 1 1", "q 600 A 1 1\nq 600 C 2 2\nq 600 C 3 3");
        Due.log(h, 2, 0, "q 900 B 2 2", "q 900 B 3 3");
        DUE.ask(h, "of B", h.offset(1), 290, 0);
        DUE.ask(h, "of C", h.offset(2), -290, 0);
        DUE.ask(h, "of A", h.offset(0), 490, 0);
    }

    private static void mostAsTheyAre() {
        DUE.by("It is 0, if twice A(0) is above N,");
        String three = "q 100 B 1 1\nq 200 B 2 2\nq 300 B 3 3";
        offset("two of three, though all by 50", 0, three,
            "q 100 A 1 1\nq 200 A 2 2\nq 150 A 1 1\nq 250 A 2 2\nq 350 A 3 3", 0);
        offset("one of three, and two by 50", 0, three, "q 100 A 1 1\nq 150 A 1 1\nq 250 A 2 2", 50);
        offset("one of one", 0, "q 100 B 1 1", "q 100 A 1 1", 0);
        offset("one of two, and two by -50", 0, "q 100 B 1 1\nq 200 B 2 2", "q 100 A 1 1\nq 50 A 1 1\nq 150 A 2 2", -50);
        offset("just within the window", 10, "q 100 B 1 1", "q 110 A 1 1", 0);
        offset("just within it, below", 10, "q 100 B 1 1", "q 90 A 1 1", 0);
    }

    private static void forNoOther() {
        DUE.by("or if twice A(o) is above N for no o;");
        offset("no contacts", 60, "x", "q 1 A 1 1", 0);
        offset("no lines", 60, "", "", 0);
        offset("none with another station", 60, "q 1 A 1 1\nq 1 Z 1 1", "q 100 A 1 1", 0);
        offset("one of two", 0, "q 100 B 1 1\nq 200 B 2 2", "q 150 A 1 1", 0);
        offset("each of two by another one", 0, "q 100 B 1 1\nq 200 B 2 2", "q 150 A 1 1\nq 251 A 2 2", 0);
        offset("two of four", 0, "q 1 B 1 1\nq 2 B 2 2\nq 3 B\nq 4 B", "q 51 A 1 1\nq 52 A 2 2", 0);
        offset("none of one", 60, "q 1 B 1 1", "q 1 A 1 2", 0);
        // B is 100 and 160 ahead, or 161: 130 is within 30 of both, or of one of them alone.
        offset("windows that meet", 30, "q 100 B 1 1\nq 200 B 2 2", "q 200 A 1 1\nq 360 A 2 2", 130);
        offset("windows that do not", 30, "q 100 B 1 1\nq 200 B 2 2", "q 200 A 1 1\nq 361 A 2 2", 0);
    }

    private static void leastSize() {
        DUE.by("else, of those o for which it is, the one of the least size,");
        offset("the edge of the window", 10, "q 100 B 1 1", "q 111 A 1 1", 1);
        offset("the edge below", 10, "q 100 B 1 1", "q 89 A 1 1", -1);
        offset("no window", 0, "q 100 B 1 1", "q 101 A 1 1", 1);
        offset("the greatest window", 3600, "q 0 B 1 1", "q 3601 A 1 1", 1);
        offset("of two, the nearer one above 0", 5, "q 1000 B 1 1", "q 1100 A 1 1\nq 899 A 1 1", 95);
        offset("of two, the nearer one below 0", 5, "q 1000 B 1 1", "q 1101 A 1 1\nq 900 A 1 1", -95);
        offset("the farther one first, below 0, then one above", 5, "q 1000 B 1 1", "q 899 A 1 1\nq 1100 A 1 1", 95);
        offset("the farther one first, both below", 5, "q 1000 B 1 1", "q 899 A 1 1\nq 900 A 1 1", -95);
        offset("the farther one first, both above", 5, "q 1000 B 1 1", "q 1101 A 1 1\nq 1100 A 1 1", 95);
        offset("the nearest one between two", 5, "q 1000 B 1 1", "q 1200 A 1 1\nq 950 A 1 1\nq 800 A 1 1", -45);
        offset("two of three, though all by more", 0, "q 100 B 1 1\nq 200 B 2 2\nq 300 B 3 3",
            "q 150 A 1 1\nq 250 A 2 2\nq 160 A 1 1\nq 260 A 2 2\nq 360 A 3 3", 50);
        offset("all, where two are too few", 0, "q 100 B 1 1\nq 200 B 2 2\nq 300 B 3 3\nq 400 B",
            "q 150 A 1 1\nq 250 A 2 2\nq 160 A 1 1\nq 260 A 2 2\nq 360 A 3 3", 60);
        offset("the far end", 0, "q 0 B 1 1", "q 9999999999 A 1 1", 9999999999L);
        offset("the far end below", 0, "q 9999999999 B 1 1", "q 0 A 1 1", -9999999999L);
        offset("the far end of a window", 3600, "q 9999999999 B 1 1", "q 0 A 1 1", -9999996399L);
        offset("2 to the 32", 0, "q 0 B 1 1", "q 4294967296 A 1 1", 4294967296L);
    }

    private static void belowZero() {
        DUE.by("of two of the same size the one below 0.");
        offset("the one above first", 5, "q 1000 B 1 1", "q 1100 A 1 1\nq 900 A 1 1", -95);
        offset("the one below first", 5, "q 1000 B 1 1", "q 900 A 1 1\nq 1100 A 1 1", -95);
        offset("of size 1", 0, "q 1000 B 1 1", "q 1001 A 1 1\nq 999 A 1 1", -1);
        offset("far", 0, "q 4999999999 B 1 1", "q 9999999998 A 1 1\nq 0 A 1 1", -4999999999L);
    }

    /** All that two stations can hold, the numbers of all contacts alike. */
    private static void fullLogs() {
        DUE.by("let N be how many contacts S has (on all bands) whose CALL is that of another station with a log,");
        ContactHouse h = Due.houseOf("A", "B");
        h.window(0);
        for (int band = 0; band < 3; band++) {
            StringBuilder mine = new StringBuilder();
            StringBuilder theirs = new StringBuilder();
            for (int i = 0; i < 16; i++) {
                mine.append("q ").append(100 + i).append(" B 1 1\n");
                theirs.append("q ").append(48 - i).append(" A 1 1\n");
            }
            Due.log(h, 0, band, mine.toString());
            Due.log(h, 1, band, theirs.toString());
        }
        // A's are at 100 .. 115, B's at 33 .. 48. By -52 - n, 1 + n of sixteen agree: nine by -60.
        DUE.ask(h, "most of full logs", h.offset(0), -60, 0);
        DUE.ask(h, "and of the other one", h.offset(1), 60, 0);
    }

    private static void findings() {
        DUE.by("An ASK (4, 7: it has no log): the OFFSET.");
        ContactHouse h = house(0, "q 100 B 1 1", "q 150 A 1 1");
        DUE.ask(h, "of A", h.offset(0), 50, 0);
        DUE.ask(h, "of B", h.offset(1), -50, 0);
        DUE.ask(h, "without a log", h.offset(2), 0, 7);
        DUE.ask(h, "of a team", h.offset(3), 0, 7);
        for (int off : new int[] {4, -1, 12, Integer.MIN_VALUE, Integer.MAX_VALUE}) {
            DUE.ask(h, "of station " + off, h.offset(off), 0, 4);
        }
        for (int band = 0; band < 3; band++) {
            ContactHouse one = Due.houseOf("A");
            Due.log(one, 0, band, "");
            DUE.ask(one, "with an empty log of band " + band, one.offset(0), 0, 0);
        }
    }

    public static void main(String[] args) {
        whichCount();
        howManyAgree();
        severalStations();
        byZeroOfTheOther();
        mostAsTheyAre();
        forNoOther();
        leastSize();
        belowZero();
        fullLogs();
        findings();
        DUE.end();
    }
}
