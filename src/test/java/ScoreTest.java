/** Promises 20 (points, by what it scores), 21 (total), 22 (rate) and 23 (place). */
public final class ScoreTest {
    private static final Due DUE = new Due("ScoreTest");

    private static final int A = 0;
    private static final int B = 1;
    private static final int C = 2;
    private static final int T = 3;

    /**
     * A of a kind has two contacts with B and one with C on band 0, one with B on band 1, a dupe, and one misheard;
     * the zones of B and C are the same, if told so.
     */
    private static ContactHouse house(int kind, int zoneOfC) {
        ContactHouse h = new ContactHouse();
        Due.station(h, "A1", kind, 1, 0, 0);
        Due.station(h, "B1", 0, 2, 0, 0);
        Due.station(h, "C1", 0, zoneOfC, 0, 0);
        Due.station(h, "T1", 4, 0, 0, 0);
        Due.log(h, A, 0, "q 1000 B1 1 1", "q 1100 B1 2 2", "q 1200 C1 3 3", "q 1300 B9 4 4");
        Due.log(h, A, 1, "q 2000 B1 1 1", "r 1 9999");
        Due.log(h, B, 0, "q 1000 A1 1 1", "q 1100 A1 2 2", "q 1300 A1 4 4");
        Due.log(h, B, 1, "q 2000 A1 1 1");
        Due.log(h, C, 0, "q 1200 A1 3 3");
        return h;
    }

    private static void kinds() {
        // Three contacts of WHY 0, of 7 points each, and three pairs of a band and a zone.
        int[] totals = {63, 42, 84 + 50, 0, 0};
        int[] penalized = {63 - 10, 35, 77 + 50, 0, 0};
        for (int kind = 0; kind < 4; kind++) {
            ContactHouse h = house(kind, 3);
            Due.rule(h, "7");
            DUE.ask(h, "total of kind " + kind, h.total(A), totals[kind], 0);
            h.penalty(10);
            DUE.ask(h, "total of kind " + kind + " with a penalty", h.total(A), penalized[kind], 0);
        }
    }

    private static void zones() {
        DUE.is("zones 2, 3 and 2 of another band", house(0, 3).total(A), 9);
        DUE.is("zones 2, 2 and 2 of another band", house(0, 2).total(A), 6);
        ContactHouse h = house(0, 2);
        Due.rule(h, "+ 1 * 10 band");
        DUE.is("points by the band", h.total(A), 2 * (1 + 1 + 11));
    }

    private static void below0() {
        ContactHouse h = house(1, 2);
        h.penalty(1000);
        DUE.is("MULTI, cut off towards 0", h.total(A), (6 - 1000) * 2 / 3);
        h.penalty(7);
        DUE.is("MULTI, -1 times 2, then / 3", h.total(A), 0);
        h = house(2, 2);
        h.penalty(17);
        DUE.is("PORTABLE: -5 times 2, then / 3, and 50", h.total(A), -3 + 50);
    }

    private static void withoutContacts() {
        ContactHouse h = new ContactHouse();
        for (int kind = 0; kind < 5; kind++) {
            Due.station(h, "A" + kind, kind, 0, 0, 0);
        }
        int[] totals = {0, 0, 50, 0, 0};
        for (int s = 0; s < 5; s++) {
            DUE.ask(h, "no log, kind " + s, h.total(s), totals[s], 0);
        }
        DUE.ask(h, "no such station", h.total(5), 0, 4);
        DUE.ask(h, "station -1", h.total(-1), 0, 4);
    }

    /** Each ask works by what is there now, whether another one was asked ahead of it or not. */
    private static void alone() {
        ContactHouse h = house(0, 3);
        Due.log(h, B, 0, "x");
        DUE.is("total alone", h.total(A), 2 * 2);
        h = house(0, 3);
        Due.log(h, B, 0, "x");
        DUE.is("rate alone", h.rate(A), 2 * 3600 / 1000);
        h = house(0, 3);
        Due.log(h, A, 0, "x");
        DUE.is("place alone", h.place(C), 3);
    }

    private static void teams() {
        ContactHouse h = house(2, 3);
        DUE.ask(h, "nobody joined", h.total(T), 0, 0);
        h.join(T, A);
        h.join(T, C);
        int a = h.total(A);
        int c = h.total(C);
        DUE.is("of A", a, 50 + 12);
        DUE.is("of C", c, 1);
        DUE.ask(h, "of the team", h.total(T), a + c, 0);
        Due.rule(h, "/ 1 - zone 1");
        DUE.ask(h, "C's contact is with zone 1", h.total(C), 0, 5);
        DUE.ask(h, "A's are not", h.total(A), 50 + 8, 0);
        DUE.ask(h, "the team's", h.total(T), 0, 5);
    }

    private static void dividedByZero() {
        for (int kind = 0; kind < 4; kind++) {
            ContactHouse h = house(kind, 3);
            Due.rule(h, "/ 1 - band 1");
            DUE.ask(h, "kind " + kind + " with a contact on band 1", h.total(A), 0, 5);
            DUE.ask(h, "without one", h.total(C), -1, 0);
        }
        // Only contacts of WHY 0 are worked: neither the dupe nor the one that is not logged divides.
        ContactHouse h = new ContactHouse();
        Due.station(h, "A1", 0, 0, 0, 0);
        Due.station(h, "B1", 0, 0, 0, 0);
        Due.log(h, 0, 0, "q 1 B1 1 1");
        Due.log(h, 0, 2, "q 1 B1 1 1");
        Due.log(h, 1, 0, "q 1 A1 1 1");
        Due.rule(h, "/ 4 - 2 band");
        DUE.ask(h, "points of it divide", h.points(0, 2, 0), 0, 5);
        DUE.ask(h, "the total does not", h.total(0), 2, 0);
    }

    private static void wrapping() {
        ContactHouse h = house(0, 3);
        Due.rule(h, "* * 9999 9999 13");
        int points = 9999 * 9999 * 13;
        DUE.is("SINGLE wraps", h.total(A), points * 3 * 3);
        h = house(1, 3);
        Due.rule(h, "* * 9999 9999 13");
        DUE.is("MULTI wraps", h.total(A), points * 3 * 3 * 2 / 3);
        h = house(2, 3);
        Due.rule(h, "* * 9999 9999 13");
        DUE.is("PORTABLE wraps", h.total(A), points * 2 * 3 * 3 * 2 / 3 + 50);
    }

    private static void rates() {
        ContactHouse h = house(0, 3);
        DUE.ask(h, "3 contacts in 1000 seconds", h.rate(A), 10, 0);
        DUE.ask(h, "2 in 1000", h.rate(B), 7, 0);
        DUE.ask(h, "one moment alone", h.rate(C), 0, 5);
        DUE.ask(h, "a team", h.rate(T), 0, 7);
        DUE.ask(h, "no such station", h.rate(4), 0, 4);
        DUE.ask(h, "station -1", h.rate(-1), 0, 4);
        Due.rule(h, "/ 1 0");
        DUE.ask(h, "no rule is worked", h.rate(A), 10, 0);
        Due.station(h, "D1", 0, 0, 0, 0);
        DUE.ask(h, "no log", h.rate(4), 0, 7);
        Due.log(h, 4, 0, "x", "r 1 1000");
        DUE.ask(h, "no contact", h.rate(4), 0, 5);
        Due.log(h, 4, 0, "q 0 Z", "q 0 Y", "r 1 1000");
        DUE.ask(h, "all at 0", h.rate(4), 0, 5);
        Due.log(h, 4, 0, "q 9999999999 Z", "q 0 Z");
        DUE.ask(h, "none that counts, lines not in order", h.rate(4), 0, 0);
    }

    private static void places() {
        ContactHouse h = house(0, 3);
        Due.station(h, "P1", 2, 0, 0, 0);
        Due.station(h, "K1", 3, 0, 0, 0);
        h.join(T, A);
        // A has 9, B 4, C 1, the team 9, P1 50.
        DUE.ask(h, "A", h.place(A), 2, 0);
        DUE.ask(h, "B", h.place(B), 3, 0);
        DUE.ask(h, "C", h.place(C), 4, 0);
        DUE.ask(h, "a team", h.place(T), 0, 7);
        DUE.ask(h, "without a log", h.place(4), 1, 0);
        DUE.ask(h, "a CHECK", h.place(5), 0, 7);
        DUE.ask(h, "no such station", h.place(6), 0, 4);
        DUE.ask(h, "station -1", h.place(-1), 0, 4);
        h.penalty(1000);
        DUE.ask(h, "A is the last now", h.place(A), 4, 0);
        Due.rule(h, "/ 1 band");
        DUE.ask(h, "A divides by 0 and has 0", h.place(A), 2, 0);
        DUE.ask(h, "as B and C", h.place(C), 2, 0);
        Due.rule(h, "- 0 1");
        DUE.ask(h, "below 0", h.place(C), 2, 0);
        Due.rule(h, "0");
        h.penalty(0);
        DUE.ask(h, "the same total, the same place", h.place(A), 2, 0);
        DUE.ask(h, "the same total, the same place", h.place(C), 2, 0);
    }

    public static void main(String[] args) {
        kinds();
        zones();
        below0();
        withoutContacts();
        alone();
        teams();
        dividedByZero();
        wrapping();
        rates();
        places();
        DUE.end();
    }
}
