/** AGREE of section 3 and promise 9 (window), a sentence at a time; a pair of two contacts shows that they agree. */
public final class EdgesOfAgreeTest {
    private static final Due DUE = new Due("EdgesOfAgreeTest");

    /** A, B, C and D; two more pairs on band 2 keep the clocks of A and B as they are. */
    private static ContactHouse house(int window) {
        ContactHouse h = Due.houseOf("A", "B", "C", "D");
        DUE.is("window", h.window(window), 1);
        Due.log(h, 0, 2, "q 5000 B 91 92", "q 6000 B 93 94", "q 7000 B 95 96");
        Due.log(h, 1, 2, "q 5000 A 92 91", "q 6000 A 94 93", "q 7000 A 96 95");
        return h;
    }

    private static void agree(ContactHouse h, String mine, String theirs, boolean is) {
        Due.log(h, 0, 0, mine);
        Due.log(h, 1, 0, theirs);
        String what = "'" + mine + "' and '" + theirs + "'";
        DUE.is(what + ": the clock of A", h.offset(0), 0);
        DUE.is(what + ": the clock of B", h.offset(1), 0);
        DUE.ask(h, what, h.pair(0, 0, 0), is ? 100 : -1, 0);
        DUE.ask(h, what + ", and back", h.pair(1, 0, 0), is ? 0 : -1, 0);
    }

    private static void twoStations() {
        DUE.by("AGREE by o and p, if S and T are two,");
        ContactHouse h = house(10);
        Due.log(h, 0, 0, "q 100 A 1 1", "q 100 A 1 1");
        for (int i = 0; i < 2; i++) {
            DUE.ask(h, "a contact with itself", h.pair(0, 0, i), -1, 0);
            DUE.ask(h, "it is neither short nor not logged", h.why(0, 0, i), 6, 0);
        }
        Due.log(h, 0, 2, "q 100 A 1 1", "q 200 A 1 1");
        DUE.ask(h, "no clock goes by itself", h.offset(0), 0, 0);
    }

    /** C and D, which have none, and a team are logged by A, with what would agree. */
    private static void withLogs() {
        DUE.by("S, T are stations with logs.");
        ContactHouse h = house(10);
        Due.station(h, "T", 4, 0, 0, 0);
        Due.log(h, 0, 0, "q 100 C 1 2", "q 100 D 1 2", "q 100 T 1 2");
        for (int i = 0; i < 3; i++) {
            DUE.ask(h, "one without a log: line " + i, h.pair(0, 0, i), -1, 0);
            DUE.ask(h, "it is not one that did not log it: line " + i, h.why(0, 0, i), 6, 0);
        }
        Due.log(h, 2, 0, "q 100 A 2 1");
        DUE.ask(h, "one that has a log now", h.pair(0, 0, 0), 200, 0);
        DUE.ask(h, "one that has none still", h.pair(0, 0, 1), -1, 0);
    }

    private static void oneBand() {
        DUE.by("A contact c of S and a contact d of T in their logs of one band AGREE");
        for (int mine = 0; mine < 3; mine++) {
            for (int theirs = 0; theirs < 3; theirs++) {
                ContactHouse h = Due.houseOf("A", "B");
                Due.log(h, 0, mine, "q 1 B 1 2");
                Due.log(h, 1, theirs, "q 1 A 2 1");
                DUE.ask(h, "bands " + mine + " and " + theirs, h.pair(0, mine, 0), mine == theirs ? 100 : -1, 0);
            }
        }
    }

    private static void calls() {
        DUE.by("the CALL of c is T's, that of d is S's,");
        ContactHouse h = house(10);
        agree(h, "q 100 B 1 2", "q 100 A 2 1", true);
        for (String off : new String[] {"A", "C", "D", "Z", "BB", "B0", "0B"}) {
            agree(h, "q 100 " + off + " 1 2", "q 100 A 2 1", false);
        }
        for (String off : new String[] {"B", "C", "D", "Z", "AA", "A0", "0A"}) {
            agree(h, "q 100 B 1 2", "q 100 " + off + " 2 1", false);
        }
    }

    private static void bothNumbers() {
        DUE.by("both have SENT and GOT,");
        ContactHouse h = house(10);
        agree(h, "q 100 B 0 0", "q 100 A 0 0", true);
        String[] lacking = {"", " 0"};
        for (String lack : lacking) {
            agree(h, "q 100 B" + lack, "q 100 A 0 0", false);
            agree(h, "q 100 B 0 0", "q 100 A" + lack, false);
            for (String other : lacking) {
                agree(h, "q 100 B" + lack, "q 100 A" + other, false);
            }
        }
        ContactHouse alone = Due.houseOf("A", "B");
        Due.log(alone, 0, 0, "q 100 B");
        Due.log(alone, 1, 0, "q 900 A");
        DUE.ask(alone, "no clock goes by what lacks on both sides", alone.offset(0), 0, 0);
    }

    private static void theOtherWayRound() {
        DUE.by("what c GOT is what d SENT and the other way round,");
        ContactHouse h = house(10);
        agree(h, "q 100 B 1 2", "q 100 A 2 1", true);
        agree(h, "q 100 B 00001 02", "q 100 A 2 01", true);
        agree(h, "q 100 B 99999 0", "q 100 A 0 99999", true);
        agree(h, "q 100 B 1 2", "q 100 A 1 2", false);
        agree(h, "q 100 B 1 2", "q 100 A 2 2", false);
        agree(h, "q 100 B 1 2", "q 100 A 1 1", false);
        agree(h, "q 100 B 1 2", "q 100 A 3 1", false);
        agree(h, "q 100 B 1 2", "q 100 A 2 3", false);
        agree(h, "q 100 B 99999 0", "q 100 A 0 34463", false);
    }

    private static void withinTheWindow() {
        DUE.by("and the MOMENT of c and o, and that of d and p, are not more than the WINDOW from one another.");
        for (int window : new int[] {0, 1, 10, 60, 3600}) {
            ContactHouse h = house(window);
            long[] moments = {4000, 9999990000L, 2147483647L, 4294967296L};
            for (long moment : moments) {
                for (int side = -1; side <= 1; side += 2) {
                    agree(h, "q " + moment + " B 1 2", "q " + (moment + side * window) + " A 2 1", true);
                    agree(h, "q " + moment + " B 1 2", "q " + (moment + side * (window + 1)) + " A 2 1", false);
                }
            }
        }
        ContactHouse h = house(60);
        agree(h, "q 0 B 1 2", "q 60 A 2 1", true);
        agree(h, "q 9999999999 B 1 2", "q 9999999939 A 2 1", true);
        agree(h, "q 0 B 1 2", "q 9999999999 A 2 1", false);
        // 2 to the 32 apart, which ints would not see.
        agree(h, "q 0 B 1 2", "q 4294967296 A 2 1", false);
        agree(h, "q 4294967306 B 1 2", "q 0 A 2 1", false);
        agree(h, "q 0 B 1 2", "q 2147483648 A 2 1", false);
    }

    /** A's clock is 200 behind those of B and C, which go by one another. */
    private static void putRightWithinTheWindow() {
        DUE.by("and the MOMENT of c and o, and that of d and p, are not more than the WINDOW from one another.");
        for (int moment = 285; moment <= 315; moment++) {
            ContactHouse h = Due.houseOf("A", "B", "C");
            h.window(10);
            Due.log(h, 0, 0, "q 100 B 1 2", "q 100 C 3 4", "q 100 C 5 6");
            Due.log(h, 1, 0, "q " + moment + " A 2 1", "q 100 C 7 8", "q 100 C 9 9");
            Due.log(h, 2, 0, "q 300 A 4 3", "q 300 A 6 5", "q 100 B 8 7", "q 100 B 9 9", "q 500 B 1 1");
            DUE.is("the clock of A", h.offset(0), 190);
            DUE.is("the clock of B", h.offset(1), 0);
            boolean is = moment >= 280 && moment <= 300;
            DUE.ask(h, "290 and " + moment, h.pair(0, 0, 0), is ? 100 : -1, 0);
        }
    }

    private static void asTheyAreNow() {
        DUE.by("CHECKING goes by the logs, the WINDOW (seconds) and the RULE as they are now.");
        ContactHouse h = house(10);
        Due.log(h, 0, 0, "q 100 B 1 2");
        Due.log(h, 1, 0, "q 115 A 2 1");
        DUE.is("beyond the window", h.pair(0, 0, 0), -1);
        h.window(15);
        DUE.is("within a new one", h.pair(0, 0, 0), 100);
        DUE.is("its total", h.total(0), 2 * 2);
        h.window(14);
        DUE.is("beyond a new one", h.why(0, 0, 0), 5);
        Due.log(h, 1, 0, "x", "q 114 A 2 1");
        DUE.is("another log", h.pair(0, 0, 0), 101);
        Due.log(h, 0, 0, "x");
        DUE.is("and of the other one", h.pair(1, 0, 1), -1);
        Due.rule(h, "5");
        DUE.is("another rule", h.total(0), 5);
        DUE.is("another rule", h.points(0, 2, 0), 5);
        Due.log(h, 0, 0, "q 100 EE 1 2");
        DUE.is("no station's call", h.why(0, 0, 0), 4);
        Due.station(h, "EE");
        DUE.is("a new station's call", h.why(0, 0, 0), 6);
        Due.log(h, 4, 1, "x");
        DUE.is("which has a log now", h.why(0, 0, 0), 5);
    }

    private static void windows() {
        DUE.by("The WINDOW is w seconds. Answers 1.");
        ContactHouse h = house(60);
        for (int w : new int[] {0, 1, 3599, 3600}) {
            DUE.is("window(" + w + ")", h.window(w), 1);
            agree(h, "q 90000 B 1 2", "q " + (90000 + w) + " A 2 1", true);
            agree(h, "q 90000 B 1 2", "q " + (90001 + w) + " A 2 1", false);
        }
    }

    private static void noWindow() {
        DUE.by("-1: it is not 0 .. 3600.");
        ContactHouse h = house(20);
        for (int off : new int[] {-1, 3601, Integer.MIN_VALUE, Integer.MAX_VALUE}) {
            DUE.is("window(" + off + ")", h.window(off), -1);
            agree(h, "q 100 B 1 2", "q 120 A 2 1", true);
            agree(h, "q 100 B 1 2", "q 121 A 2 1", false);
        }
    }

    public static void main(String[] args) {
        withLogs();
        twoStations();
        oneBand();
        calls();
        bothNumbers();
        theOtherWayRound();
        withinTheWindow();
        putRightWithinTheWindow();
        asTheyAreNow();
        windows();
        noWindow();
        DUE.end();
    }
}
