import java.util.Arrays;

/** Promise 17 (pair). */
public final class PairTest {
    private static final Due DUE = new Due("PairTest");

    private static ContactHouse house(String[] mine, String[] theirs) {
        ContactHouse h = new ContactHouse();
        Due.station(h, "A");
        Due.station(h, "B");
        h.window(10);
        Due.log(h, 0, 0, mine);
        Due.log(h, 1, 0, theirs);
        return h;
    }

    private static String[] lines(String... lines) {
        return lines;
    }

    /** The lines of B that the lines of A are in pairs with; and back. */
    private static void pairs(String what, ContactHouse h, int... mates) {
        DUE.is(what + ": offset", h.offset(0), 0);
        DUE.is(what + ": offset of the other", h.offset(1), 0);
        int[] back = new int[h.lines(1, 0)];
        Arrays.fill(back, -1);
        for (int i = 0; i < mates.length; i++) {
            DUE.ask(h, what + ": line " + i, h.pair(0, 0, i), mates[i] < 0 ? -1 : 100 + mates[i], 0);
            if (mates[i] >= 0) {
                back[mates[i]] = i;
            }
        }
        for (int j = 0; j < back.length; j++) {
            DUE.ask(h, what + ": line " + j + " of the other", h.pair(1, 0, j), back[j], 0);
        }
    }

    private static void agreeing() {
        String[] theirs = lines("q 100 A 2 1", "q 100 A 9 9", "q 100 A 9 9");
        String[] more = {"q 100 B 9 9", "q 100 B 9 9"};
        String[][] cases = {
            {"q 100 B 1 2", "0"}, {"q 90 B 01 002", "0"}, {"q 110 B 1 2", "0"}, {"q 89 B 1 2", "-1"}, {"q 111 B 1 2", "-1"},
            {"q 100 B 2 1", "-1"}, {"q 100 B 1 3", "-1"}, {"q 100 B 3 2", "-1"}, {"q 100 B 1", "-1"}, {"q 100 B", "-1"},
            {"q 100 A 1 2", "-1"}, {"q 100 C 1 2", "-1"}};
        for (String[] one : cases) {
            ContactHouse h = house(lines(one[0], more[0], more[1]), theirs);
            DUE.is("offset", h.offset(0), 0);
            DUE.is("offset", h.offset(1), 0);
            int mate = Integer.parseInt(one[1]);
            DUE.ask(h, one[0], h.pair(0, 0, 0), mate < 0 ? -1 : 100 + mate, 0);
        }
    }

    private static void best() {
        pairs("the most pairs, though farther",
            house(lines("q 100 B 1 1", "q 108 B 1 1"), lines("q 100 A 1 1", "q 92 A 1 1")), 1, 0);
        pairs("the least sum",
            house(lines("q 100 B 1 1", "q 104 B 1 1"), lines("q 105 A 1 1")), -1, 0);
        pairs("the least sum of two",
            house(lines("q 100 B 1 1", "q 104 B 1 1"), lines("q 105 A 1 1", "q 99 A 1 1")), 1, 0);
        pairs("a pair comes ahead of none",
            house(lines("q 100 B 1 1", "q 104 B 1 1"), lines("q 102 A 1 1")), 0, -1);
        pairs("the lesser line comes ahead",
            house(lines("q 100 B 1 1"), lines("q 102 A 1 1", "q 98 A 1 1")), 0);
        pairs("crossing pairs may be the first",
            house(lines("q 100 B 1 1", "q 101 B 1 1"), lines("q 103 A 1 1", "q 102 A 1 1")), 0, 1);
        pairs("lines that cross, in order",
            house(lines("q 101 B 1 1", "q 100 B 1 1"), lines("q 103 A 1 1", "q 102 A 1 1")), 0, 1);
        pairs("crossing would be beyond the window",
            house(lines("q 100 B 1 1", "q 105 B 1 1"), lines("q 111 A 1 1", "q 106 A 1 1")), 1, 0);
        pairs("the same moments",
            house(lines("q 1 B 1 1", "q 1 B 1 1", "q 1 B 1 1"), lines("q 1 A 1 1", "q 1 A 1 1")), 0, 1, -1);
        pairs("numbers set contacts apart",
            house(lines("q 1 B 2 1", "q 1 B 1 2", "q 1 B 1 1"), lines("q 1 A 1 1", "q 1 A 2 1", "q 1 A 1 2")), 2, 1, 0);
    }

    private static void otherLinesBetween() {
        ContactHouse h = house(lines("x", "q 1 B 1 1", "r 1 1"), lines("r 2 2", "x", "q 1 A 1 1"));
        DUE.ask(h, "behind a remark", h.pair(0, 0, 1), 102, 0);
        DUE.ask(h, "behind two others", h.pair(1, 0, 2), 1, 0);
    }

    private static void putRight() {
        ContactHouse h = new ContactHouse();
        for (String call : new String[] {"A", "B", "C"}) {
            Due.station(h, call);
        }
        h.window(10);
        // A's clock is 100 behind B's and C's, who have more contacts with one another.
        Due.log(h, 0, 0, "q 900 B 1 1", "q 900 C 1 1");
        Due.log(h, 1, 0, "q 1000 A 1 1", "q 1000 C 1 1", "q 1000 C 2 2");
        Due.log(h, 2, 0, "q 1000 A 1 1", "q 1000 B 1 1", "q 1000 B 2 2");
        DUE.is("offset of A", h.offset(0), 90);
        DUE.is("offset of B", h.offset(1), 0);
        DUE.is("pair of A and B, put right", h.pair(0, 0, 0), 100);
        DUE.is("pair of A and C, put right", h.pair(0, 0, 1), 200);
        DUE.is("pair of B and A", h.pair(1, 0, 0), 0);
        DUE.is("pair of B and C", h.pair(1, 0, 2), 202);
        DUE.is("pair of C and B", h.pair(2, 0, 1), 101);
    }

    /** Fewer contacts are paired after more. */
    private static void severalStations() {
        ContactHouse h = new ContactHouse();
        for (String call : new String[] {"A", "B", "C", "D"}) {
            Due.station(h, call);
        }
        Due.log(h, 0, 0, "q 1 B 1 1", "q 2 B 2 2", "q 3 B 3 3", "q 4 C 4 4", "q 5 D 5 5", "q 6 D 5 5");
        Due.log(h, 1, 0, "q 3 A 3 3", "q 2 A 2 2", "q 1 A 1 1");
        Due.log(h, 2, 0, "q 4 A 4 4");
        Due.log(h, 3, 0, "q 6 A 5 5");
        int[] mates = {102, 101, 100, 200, -1, 300};
        for (int i = 0; i < mates.length; i++) {
            DUE.is("several stations: line " + i, h.pair(0, 0, i), mates[i]);
        }
    }

    private static void bands() {
        ContactHouse h = house(lines("q 1 B 1 1"), lines("x"));
        Due.log(h, 1, 1, "q 1 A 1 1");
        DUE.ask(h, "another band", h.pair(0, 0, 0), -1, 0);
        Due.log(h, 0, 1, "x", "q 1 B 1 1");
        DUE.ask(h, "the same band", h.pair(1, 1, 0), 1, 0);
    }

    /** Sixteen against sixteen, all alike but for their moments: the worst that a band can hold. */
    private static void full() {
        String[] mine = new String[16];
        String[] theirs = new String[16];
        for (int i = 0; i < 16; i++) {
            mine[i] = "q " + (100 + i) + " B 1 1";
            theirs[i] = "q " + (130 - i) + " A 1 1";
        }
        ContactHouse h = house(mine, theirs);
        h.window(3600);
        for (int i = 0; i < 16; i++) {
            // All of A's are ahead of all of B's, so every way has the same sum.
            DUE.is("full: line " + i, h.pair(0, 0, i), 100 + i);
        }
    }

    /** No station is one of two with itself. */
    private static void itself() {
        ContactHouse h = new ContactHouse();
        Due.station(h, "A");
        Due.log(h, 0, 0, "q 1 A 1 1", "q 1 A 1 1");
        DUE.ask(h, "itself", h.pair(0, 0, 0), -1, 0);
        DUE.ask(h, "itself: why", h.why(0, 0, 0), 6, 0);
    }

    public static void main(String[] args) {
        agreeing();
        best();
        otherLinesBetween();
        putRight();
        severalStations();
        bands();
        full();
        itself();
        DUE.end();
    }
}
