import java.util.Arrays;
import java.util.Random;

/** PAIRS of section 3 and promise 17 (pair), a sentence at a time. */
public final class EdgesOfPairsTest {
    private static final Due DUE = new Due("EdgesOfPairsTest");
    private static final int NONE = -1;

    /** A and B with contacts at these moments on band 0, all alike; pairs on band 2 keep the clocks as they are. */
    private static ContactHouse house(int window, int[] mine, int[] theirs) {
        ContactHouse h = Due.houseOf("A", "B");
        h.window(window);
        Due.log(h, 0, 0, linesAt(mine, "B"));
        Due.log(h, 1, 0, linesAt(theirs, "A"));
        for (int band = 1; band < 3; band++) {
            Due.log(h, 0, band, anchors(8, "B"));
            Due.log(h, 1, band, anchors(8, "A"));
        }
        return h;
    }

    private static String linesAt(int[] moments, String call) {
        StringBuilder lines = new StringBuilder();
        for (int moment : moments) {
            lines.append("q ").append(moment).append(' ').append(call).append(" 1 1\n");
        }
        return lines.toString();
    }

    private static String anchors(int lines, String call) {
        StringBuilder text = new StringBuilder();
        for (int n = 0; n < lines; n++) {
            text.append("q 50000 ").append(call).append(' ').append(n).append(' ').append(n).append('\n');
        }
        return text.toString();
    }

    private static int[] at(int... moments) {
        return moments;
    }

    /** The lines of B with which those of A are in pairs, and back. */
    private static void pairs(String what, int window, int[] mine, int[] theirs, int... mates) {
        ContactHouse h = house(window, mine, theirs);
        DUE.is(what + ": the clock of A", h.offset(0), 0);
        DUE.is(what + ": the clock of B", h.offset(1), 0);
        int[] back = new int[theirs.length];
        Arrays.fill(back, NONE);
        for (int i = 0; i < mates.length; i++) {
            DUE.ask(h, what + ": line " + i, h.pair(0, 0, i), mates[i] == NONE ? -1 : 100 + mates[i], 0);
            if (mates[i] != NONE) {
                back[mates[i]] = i;
            }
        }
        for (int j = 0; j < back.length; j++) {
            DUE.ask(h, what + ": line " + j + " of B", h.pair(1, 0, j), back[j], 0);
        }
    }

    /** In each case, the first of the best ways by the lines of B would be another one. */
    private static void theLesserNumber() {
        DUE.by("PAIRS, of two stations S and T (S with the lesser number) on a band:");
        pairs("from the lines of A on", 4, at(4, 8), at(12, 0, 6), 1, 2);
        pairs("from the lines of A on, three of A", 4, at(0, 12, 6), at(8, 4), 1, NONE, 0);
        pairs("from the lines of A on, three of each", 4, at(0, 2, 4), at(6, 4, 2), 1, 2, 0);
    }

    private static void oneAtMost() {
        DUE.by("each contact into one at most,");
        pairs("two with one", 10, at(100, 100), at(100), 0, NONE);
        pairs("one with two", 10, at(100), at(100, 100), 0);
        pairs("three with two", 10, at(100, 100, 100), at(100, 100), 0, 1, NONE);
        pairs("sixteen with one", 10, at(100, 100, 100, 100, 100, 100, 100, 100, 100, 100, 100, 100, 100, 100, 100, 100), at(100),
            0, NONE, NONE, NONE, NONE, NONE, NONE, NONE, NONE, NONE, NONE, NONE, NONE, NONE, NONE, NONE);
    }

    private static void theMost() {
        DUE.by("that which has the most pairs;");
        pairs("the nearest one would leave one out", 10, at(100, 109), at(101, 91), 1, 0);
        pairs("a chain, each by the whole window", 10, at(10, 30, 50), at(20, 40, 60), 0, 1, 2);
        pairs("a chain, the other way", 10, at(20, 40, 60), at(10, 30, 50), 0, 1, 2);
        pairs("two by the greatest window rather than one by 0", 3600, at(3600, 7200), at(3600, 0), 1, 0);
        pairs("one cannot", 10, at(100, 200), at(100, 100), 0, NONE);
        pairs("none can", 10, at(100, 200), at(120, 180), NONE, NONE);
    }

    private static void theLeastSum() {
        DUE.by("of several that with the least sum of the distances of their moments, put right by the OFFSETS;");
        pairs("the nearer line of A", 10, at(100, 104), at(103), NONE, 0);
        pairs("the nearer line of B", 10, at(100), at(95, 104), 1);
        pairs("nearer by one", 10, at(100, 105), at(103), NONE, 0);
        pairs("the sum of two", 10, at(100, 106), at(105, 99), 1, 0);
        pairs("the sum, not the nearest two", 10, at(10, 13), at(19, 12), 1, 0);
        pairs("the sum of three", 20, at(10, 20, 30), at(31, 11, 21), 1, 2, 0);
        pairs("a pair more ahead of a lesser sum", 3600, at(0, 3600), at(3600, 7200), 0, 1);
    }

    /** A's clock is 100 behind: as they stand, other contacts of B would be the nearer ones. */
    private static void putRight() {
        DUE.by("of several that with the least sum of the distances of their moments, put right by the OFFSETS;");
        ContactHouse h = Due.houseOf("A", "B", "C");
        h.window(10);
        Due.log(h, 0, 0, "q 500 B 1 1", "q 900 C 2 2", "q 900 C 3 3");
        Due.log(h, 1, 0, "q 600 A 1 1", "q 586 A 1 1", "q 1 C 4 4", "q 1 C 5 5", "q 1 C 6 6");
        Due.log(h, 2, 0, "q 1000 A 2 2", "q 1000 A 3 3", "q 1 B 4 4", "q 1 B 5 5", "q 1 B 6 6");
        DUE.is("the clock of A", h.offset(0), 90);
        DUE.is("the clock of B", h.offset(1), 0);
        DUE.ask(h, "4 seconds rather than 10", h.pair(0, 0, 0), 101, 0);
        Due.log(h, 1, 0, "q 600 A 1 1", "q 579 A 1 1", "q 1 C 4 4", "q 1 C 5 5", "q 1 C 6 6");
        DUE.ask(h, "11 seconds are too many", h.pair(0, 0, 0), 100, 0);
        Due.log(h, 1, 0, "q 600 A 1 1", "q 580 A 1 1", "q 1 C 4 4", "q 1 C 5 5", "q 1 C 6 6");
        DUE.ask(h, "10 seconds on both sides", h.pair(0, 0, 0), 100, 0);
    }

    private static void aPairAheadOfNone() {
        DUE.by("of several the first: from the first line of S on, where two ways differ, a contact in a pair comes ahead of one in none,");
        pairs("the first of two", 10, at(100, 104), at(102), 0, NONE);
        pairs("the first of two, the later one", 10, at(104, 100), at(102), 0, NONE);
        pairs("the first of three", 10, at(104, 100, 104), at(102), 0, NONE, NONE);
        pairs("the first two of three", 10, at(100, 100, 100), at(103, 104), 0, 1, NONE);
        pairs("the last one may be in one all the same", 10, at(100, 200, 100, 200), at(200, 200, 100), 2, 0, NONE, 1);
    }

    private static void theLesserLine() {
        DUE.by("and the lesser line of T ahead of a greater one.");
        pairs("the first of two", 10, at(100), at(102, 98), 0);
        pairs("the first of two, the other side", 10, at(100), at(98, 102), 0);
        pairs("both alike", 10, at(100, 100), at(100, 100), 0, 1);
        pairs("crossing, with the same sum", 10, at(100, 101), at(103, 102), 0, 1);
        pairs("not crossing, with the same sum", 10, at(101, 100), at(102, 103), 0, 1);
        pairs("crossing would be beyond the window", 5, at(100, 101), at(106, 105), 1, 0);
        pairs("what is left over is the greatest", 10, at(100, 100), at(101, 101, 101), 0, 1);
    }

    /** Each two of twelve stations have one contact with one another. */
    private static void allTwoStations() {
        DUE.by("The PAIRS of all are those of all two stations on all bands.");
        for (int band = 0; band < 3; band++) {
            ContactHouse h = Due.houseOf("A", "B", "C", "D", "E", "F", "G", "H", "I", "J", "K", "L");
            for (int s = 0; s < 12; s++) {
                StringBuilder lines = new StringBuilder();
                for (int t = 0; t < 12; t++) {
                    lines.append(t == s ? "" : "q 1 " + (char) ('A' + t) + " 1 1\n");
                }
                Due.log(h, s, band, lines.toString());
            }
            for (int s = 0; s < 12; s++) {
                for (int t = 0; t < 12; t++) {
                    if (t != s) {
                        int want = 100 * t + (s < t ? s : s - 1);
                        DUE.ask(h, s + " and " + t, h.pair(s, band, t < s ? t : t - 1), want, 0);
                    }
                }
            }
        }
        ContactHouse h = Due.houseOf("A", "B");
        for (int band = 0; band < 3; band++) {
            Due.log(h, 0, band, "x\n".repeat(band) + "q 1 B 1 1");
            Due.log(h, 1, band, "r 1 1\n".repeat(3 * band) + "q 1 A 1 1");
        }
        for (int band = 0; band < 3; band++) {
            DUE.ask(h, "two stations on band " + band, h.pair(0, band, band), 100 + 3 * band, 0);
            DUE.ask(h, "and back", h.pair(1, band, 3 * band), band, 0);
        }
    }

    private static void stationAndLine() {
        DUE.by("100 times the number of the station with whose contact it is in a pair, and that one's line; -1 if it is in none.");
        ContactHouse h = Due.houseOf("A", "B", "C", "D", "E", "F", "G", "H", "I", "J", "K", "L");
        Due.log(h, 11, 0, "x\n".repeat(15) + "q 1 A 1 1");
        Due.log(h, 0, 0, "q 1 L 1 1\nq 2 L 2 2\n" + "x\n".repeat(13) + "q 1 B 1 1");
        Due.log(h, 1, 0, "q 1 A 1 1");
        DUE.ask(h, "station 11, line 15", h.pair(0, 0, 0), 1115, 0);
        DUE.ask(h, "station 0, line 0", h.pair(11, 0, 15), 0, 0);
        DUE.ask(h, "none", h.pair(0, 0, 1), -1, 0);
        DUE.ask(h, "station 1, line 0", h.pair(0, 0, 15), 100, 0);
        DUE.ask(h, "station 0, line 15", h.pair(1, 0, 0), 15, 0);
    }

    /** A contact as its moment, what was sent and what was got. */
    private static int distance(int window, int[] mine, int[] theirs) {
        int apart = Math.abs(mine[0] - theirs[0]);
        return mine[1] == theirs[2] && mine[2] == theirs[1] && apart <= window ? apart : NONE;
    }

    /**
     * The first of the best ways by going through all sets of lines of B that are in pairs already,
     * for logs that are too full to go through all ways.
     */
    private static int[] firstOfTheBest(int window, int[][] mine, int[][] theirs) {
        int sets = 1 << theirs.length;
        long[][] best = new long[mine.length + 1][sets];
        for (int i = mine.length - 1; i >= 0; i--) {
            for (int taken = 0; taken < sets; taken++) {
                best[i][taken] = best[i + 1][taken];
                for (int j = 0; j < theirs.length; j++) {
                    int distance = distance(window, mine[i], theirs[j]);
                    if ((taken >> j & 1) == 0 && distance != NONE) {
                        best[i][taken] = Math.max(best[i][taken], best[i + 1][taken | 1 << j] + 1000000 - distance);
                    }
                }
            }
        }
        int[] mates = new int[mine.length];
        int taken = 0;
        for (int i = 0; i < mine.length; i++) {
            mates[i] = NONE;
            for (int j = 0; j < theirs.length && mates[i] == NONE; j++) {
                int distance = distance(window, mine[i], theirs[j]);
                boolean may = (taken >> j & 1) == 0 && distance != NONE;
                if (may && best[i + 1][taken | 1 << j] + 1000000 - distance == best[i][taken]) {
                    mates[i] = j;
                    taken |= 1 << j;
                }
            }
        }
        return mates;
    }

    private static int[][] contactsByChance(Random random, int size, int spread, int numbers) {
        int[][] contacts = new int[size][];
        for (int i = 0; i < size; i++) {
            contacts[i] = new int[] {1000 + random.nextInt(spread), random.nextInt(numbers), random.nextInt(numbers)};
        }
        return contacts;
    }

    private static String linesOf(int[][] contacts, String call) {
        StringBuilder lines = new StringBuilder();
        for (int[] c : contacts) {
            lines.append("q ").append(c[0]).append(' ').append(call).append(' ').append(c[1]).append(' ').append(c[2]).append('\n');
        }
        return lines.toString();
    }

    private static void fullLogs() {
        DUE.by("of the ways to put contacts of S and of T that AGREE by their OFFSETS into pairs,");
        Random random = new Random(7);
        for (int run = 0; run < 24; run++) {
            int spread = 3 + run * run / 2;
            int window = run % 2 == 0 ? spread / 3 : spread / 8;
            int numbers = 1 + run % 4;
            int[][] mine = contactsByChance(random, 16, spread, numbers);
            int[][] theirs = contactsByChance(random, 16 - run % 3, spread, numbers);
            ContactHouse h = Due.houseOf("A", "B");
            h.window(window);
            Due.log(h, 0, 0, linesOf(mine, "B"));
            Due.log(h, 1, 0, linesOf(theirs, "A"));
            for (int band = 1; band < 3; band++) {
                Due.log(h, 0, band, anchors(16, "B"));
                Due.log(h, 1, band, anchors(16, "A"));
            }
            DUE.is("full logs " + run + ": the clock of A", h.offset(0), 0);
            DUE.is("full logs " + run + ": the clock of B", h.offset(1), 0);
            int[] mates = firstOfTheBest(window, mine, theirs);
            for (int i = 0; i < 16; i++) {
                DUE.is("full logs " + run + ": line " + i, h.pair(0, 0, i), mates[i] == NONE ? -1 : 100 + mates[i]);
            }
        }
    }

    /** Two stations after two others, and a band after another, that had more pairs: nothing is left of those. */
    private static void fewerAfterMore() {
        DUE.by("The PAIRS of all are those of all two stations on all bands.");
        ContactHouse h = Due.houseOf("A", "B", "C");
        String[] mine = {"q 1 B 1 1\n".repeat(8), "q 1 B 1 1\n".repeat(4), "q 1 B 1 1\n"};
        String[] theirs = {"q 1 A 1 1\n".repeat(10), "q 1 A 1 1\n", "q 1 A 1 1\n".repeat(3)};
        int[] pairs = {8, 1, 1};
        for (int band = 0; band < 3; band++) {
            Due.log(h, 0, band, mine[band] + "q 1 C 2 2\nq 1 C 3 3");
            Due.log(h, 1, band, theirs[band]);
            Due.log(h, 2, band, "q 1 A 3 3", "q 1 A 2 2");
        }
        for (int band = 0; band < 3; band++) {
            int lines = h.lines(0, band) - 2;
            for (int i = 0; i < lines; i++) {
                DUE.ask(h, "with B on band " + band + ": line " + i, h.pair(0, band, i), i < pairs[band] ? 100 + i : -1, 0);
            }
            DUE.ask(h, "with C on band " + band, h.pair(0, band, lines), 201, 0);
            DUE.ask(h, "with C on band " + band, h.pair(0, band, lines + 1), 200, 0);
        }
    }

    public static void main(String[] args) {
        theLesserNumber();
        oneAtMost();
        theMost();
        theLeastSum();
        putRight();
        aPairAheadOfNone();
        theLesserLine();
        allTwoStations();
        stationAndLine();
        fullLogs();
        fewerAfterMore();
        DUE.end();
    }
}
