/** POINTS, the CHECKED sum and TOTAL of section 3, and promises 10 and 20 to 23, a sentence at a time. */
public final class EdgesOfScoresTest {
    private static final Due DUE = new Due("EdgesOfScoresTest");
    private static final String LEAST = "* * 4096 4096 128";
    private static final String GREATEST = "- " + LEAST + " 1";
    private static final int SINGLE = 0;
    private static final int MULTI = 1;
    private static final int PORTABLE = 2;
    private static final int CHECK = 3;
    private static final int TEAM = 4;

    /**
     * A1 of a kind; B1 and C1, SINGLES of zones 1 and 39. Each has one pair with A1, on bands 0 and 2; on band 1 A1 has
     * as many contacts with B1 misheard as told.
     */
    private static ContactHouse house(int kind, int misheard) {
        ContactHouse h = new ContactHouse();
        Due.station(h, "A1", kind, 0, 0, 0);
        Due.station(h, "B1", SINGLE, 1, 3, 4);
        Due.station(h, "C1", SINGLE, 39, 0, 0);
        Due.log(h, 0, 0, "q 1000 B1 1 1");
        Due.log(h, 1, 0, "q 1000 A1 1 1");
        Due.log(h, 0, 2, "q 2000 C1 2 2");
        Due.log(h, 2, 2, "q 2000 A1 2 2");
        Due.log(h, 0, 1, "q 1500 B9 3 3\n".repeat(misheard));
        Due.log(h, 1, 1, "q 1500 A1 3 3");
        return h;
    }

    private static void total(String what, ContactHouse h, int s, int want) {
        DUE.ask(h, what, h.total(s), want, 0);
    }

    private static void pointsByCall() {
        DUE.by("POINTS of a contact whose CALL is a station's (another one's or not): what the RULE gives; of others 0.");
        ContactHouse h = new ContactHouse();
        for (int kind = 0; kind <= 4; kind++) {
            Due.station(h, "K" + kind, kind, 0, 0, 0);
        }
        Due.rule(h, "+ 5 kind");
        Due.log(h, 0, 0, "q 1 K0", "q 1 K1 1", "q 1 K2 1 1", "q 1 K3 1 1", "q 1 K4 1 1", "q 1 K5 1 1", "q 1 K", "q 1 K00");
        int[] points = {5, 6, 7, 8, 9, 0, 0, 0};
        for (int i = 0; i < points.length; i++) {
            DUE.ask(h, "line " + i, h.points(0, 0, i), points[i], 0);
        }
        Due.rule(h, "/ 1 0");
        for (int i = 0; i < points.length; i++) {
            DUE.ask(h, "line " + i + ", divided by 0", h.points(0, 0, i), 0, i <= 4 ? 5 : 0);
        }
    }

    private static void whichAreAddedUp() {
        DUE.by("A CHECKED sum: the WORTH of the POINTS of each contact of S with WHY 0, added up,");
        ContactHouse h = Due.houseOf("A1", "B1", "C1");
        Due.rule(h, "7");
        total("no log", h, 0, 0);
        Due.log(h, 0, 0, "");
        total("an empty log", h, 0, 0);
        Due.log(h, 0, 0, "q 100 C1 1 1", "q 100 A1 1 1", "q 100 B1 1", "q 100 Z 1 1");
        Due.log(h, 1, 0, "x");
        total("none in a pair", h, 0, 0);
        Due.log(h, 1, 0, "q 100 A1 2 2", "q 100 A1 3 3");
        Due.log(h, 0, 0, "q 100 B1 2 2", "q 100 B1 3 3", "q 100 B1 4 4", "q 100 B1 5", "q 100 B2 3 3");
        total("a dupe does not count", h, 0, 7);
        Due.log(h, 0, 1, "q 100 B1 2 2");
        Due.log(h, 1, 1, "q 100 A1 2 2");
        total("nor is it one on another band", h, 0, (7 + 7) * 2);
        Due.rule(h, "- band 2");
        total("points below 0", h, 0, (-2 - 1) * 2);
    }

    private static void bandsAndZones() {
        DUE.by("times how many different pairs of a band and the ZONE of the station there are among these contacts;");
        int[][] zones = {{0, 0, 1}, {0, 39, 2}, {38, 39, 2}, {39, 39, 1}, {31, 32, 2}, {0, 32, 2}, {7, 39, 2}};
        for (int[] zone : zones) {
            ContactHouse h = new ContactHouse();
            Due.station(h, "A1", 0, 5, 0, 0);
            Due.station(h, "B1", 0, zone[0], 0, 0);
            Due.station(h, "C1", 0, zone[1], 0, 0);
            Due.station(h, "D1", 0, 20, 0, 0);
            Due.log(h, 0, 0, "q 1 B1 1 1", "q 1 C1 1 1", "q 1 D1 1 1");
            Due.log(h, 1, 0, "q 1 A1 1 1");
            Due.log(h, 2, 0, "q 1 A1 1 1");
            Due.log(h, 3, 0, "x");
            total("zones " + zone[0] + " and " + zone[1], h, 0, 2 * zone[2]);
            Due.log(h, 0, 2, "q 9 B1 1 1");
            Due.log(h, 1, 2, "q 9 A1 1 1");
            total("one more on another band", h, 0, 3 * (zone[2] + 1));
            Due.log(h, 0, 1, "q 9 B1 1 1");
            Due.log(h, 1, 1, "q 9 A1 1 1");
            total("and on the third", h, 0, 4 * (zone[2] + 2));
        }
    }

    /** Eleven stations, each of a zone of its own, on all three bands: the most that there can be. */
    private static void theMostZones() {
        DUE.by("times how many different pairs of a band and the ZONE of the station there are among these contacts;");
        ContactHouse h = new ContactHouse();
        String lines = "";
        for (int n = 0; n < 12; n++) {
            Due.station(h, "" + (char) ('A' + n), 0, 28 + n, 0, 0);
            lines += n == 0 ? "" : "q 1 " + (char) ('A' + n) + " 1 1\n";
        }
        for (int band = 0; band < 3; band++) {
            Due.log(h, 0, band, lines);
            for (int n = 1; n < 12; n++) {
                Due.log(h, n, band, "q 1 A 1 1");
            }
        }
        total("33 contacts, 33 pairs of a band and a zone", h, 0, 33 * 33);
    }

    private static void penaltyOfMisheard() {
        DUE.by("less the PENALTY times how many contacts of S are MISHEARD.");
        for (int misheard = 0; misheard <= 16; misheard++) {
            ContactHouse h = house(SINGLE, misheard);
            h.penalty(1000);
            total(misheard + " misheard", h, 0, 2 * 2 - 1000 * misheard);
            total("nobody misheard for B1", h, 1, 1);
        }
        ContactHouse h = Due.houseOf("A1", "B1");
        h.penalty(3);
        Due.log(h, 0, 0, "q 1 B2 1 1");
        Due.log(h, 1, 0, "q 1 A1 1 1");
        total("without one that counts", h, 0, -3);
    }

    private static void ofASingle() {
        DUE.by("TOTAL: SINGLE: the CHECKED sum, WORTH being the POINTS.");
        ContactHouse h = house(SINGLE, 1);
        Due.rule(h, "7");
        h.penalty(9);
        total("single", h, 0, (7 + 7) * 2 - 9);
    }

    private static void ofAMulti() {
        DUE.by("MULTI: two thirds of what it would be as a SINGLE (times 2, then / 3, cut off towards 0).");
        int[] penalties = {0, 1, 2, 3, 4, 5, 6, 7, 8, 1000};
        int[] totals = {2, 2, 1, 0, 0, 0, -1, -2, -2, -664};
        for (int n = 0; n < penalties.length; n++) {
            ContactHouse h = house(MULTI, 1);
            h.penalty(penalties[n]);
            total("two thirds of 4 less " + penalties[n], h, 0, totals[n]);
        }
    }

    private static void ofAPortable() {
        DUE.by("PORTABLE: 50 more than as a MULTI, but the WORTH is twice that of a SINGLE.");
        int[] penalties = {0, 1, 7, 8, 9, 10, 1000};
        int[] totals = {55, 54, 50, 50, 50, 49, 50 - 661};
        for (int n = 0; n < penalties.length; n++) {
            ContactHouse h = house(PORTABLE, 1);
            h.penalty(penalties[n]);
            total("50 and two thirds of 8 less " + penalties[n], h, 0, totals[n]);
        }
        ContactHouse h = new ContactHouse();
        Due.station(h, "A1", PORTABLE, 0, 0, 0);
        total("without a log", h, 0, 50);
    }

    private static void ofACheck() {
        DUE.by("CHECK: 0 (the RULE is worked all the same).");
        ContactHouse h = house(CHECK, 1);
        h.penalty(1000);
        total("check", h, 0, 0);
        Due.rule(h, "/ 1 0");
        DUE.ask(h, "divided by 0", h.total(0), 0, 5);
        Due.rule(h, "/ 1 - band 1");
        total("not on these bands", h, 0, 0);
        Due.rule(h, "/ 1 - 2 band");
        DUE.ask(h, "divided by 0 on the last band", h.total(0), 0, 5);
    }

    private static void ofATeam() {
        DUE.by("TEAM: the sum of the TOTALS of the stations that joined it.");
        ContactHouse h = new ContactHouse();
        Due.station(h, "T1", TEAM, 0, 0, 0);
        Due.station(h, "A1", PORTABLE, 0, 0, 0);
        Due.station(h, "B1", SINGLE, 0, 0, 0);
        Due.station(h, "C1", CHECK, 0, 0, 0);
        Due.station(h, "T2", TEAM, 0, 0, 0);
        Due.rule(h, "9");
        Due.log(h, 1, 0, "q 1 B1 1 1", "q 1 C1 2 2");
        Due.log(h, 2, 0, "q 1 A1 1 1");
        Due.log(h, 3, 0, "q 1 A1 2 2");
        total("nobody", h, 0, 0);
        h.join(0, 3);
        total("a check", h, 0, 0);
        h.join(0, 2);
        total("and a single", h, 0, 9);
        h.join(0, 1);
        total("and a portable", h, 0, 9 + 50 + 2 * 9 * 2 * 2 / 3);
        total("another team", h, 4, 0);
    }

    private static void wrapping() {
        DUE.by("(All ints that wrap.)");
        int greatest = Integer.MAX_VALUE;
        int least = Integer.MIN_VALUE;
        ContactHouse h = house(SINGLE, 1);
        Due.rule(h, GREATEST);
        total("the sum, times 2", h, 0, (greatest + greatest) * 2);
        Due.rule(h, "? band 1 " + LEAST);
        h.penalty(1);
        total("times 2, less 1", h, 0, (least + 1) * 2 - 1);
        h = house(MULTI, 0);
        Due.rule(h, "? band 0 / " + GREATEST + " 2");
        total("times 2 of a MULTI", h, 0, greatest / 2 * 2 * 2 / 3);
        DUE.is("which is below 0", greatest / 2 * 2 * 2 / 3 < 0 ? 1 : 0, 1);
        h = house(PORTABLE, 0);
        Due.rule(h, "? band 0 / " + GREATEST + " 3");
        total("twice the worth of a PORTABLE", h, 0, 2 * (greatest / 3) * 2 * 2 / 3 + 50);
        h = house(SINGLE, 0);
        Due.station(h, "T1", TEAM, 0, 0, 0);
        Due.station(h, "P1", PORTABLE, 0, 0, 0);
        Due.log(h, 0, 2, "x");
        Due.rule(h, GREATEST);
        total("the greatest", h, 0, greatest);
        h.join(3, 0);
        h.join(3, 4);
        total("50 more of a TEAM", h, 3, greatest + 50);
        h.join(3, 1);
        total("and the greatest once more", h, 3, greatest + 50 + greatest);
    }

    private static void penalties() {
        DUE.by("The PENALTY is p. Answers 1.");
        ContactHouse h = house(SINGLE, 1);
        for (int p : new int[] {1000, 999, 1, 0}) {
            DUE.is("penalty(" + p + ")", h.penalty(p), 1);
            total("a penalty of " + p, h, 0, 4 - p);
        }
    }

    private static void noPenalty() {
        DUE.by("-1: it is not 0 .. 1000.");
        ContactHouse h = house(SINGLE, 1);
        h.penalty(7);
        for (int off : new int[] {-1, 1001, Integer.MIN_VALUE, Integer.MAX_VALUE}) {
            DUE.is("penalty(" + off + ")", h.penalty(off), -1);
            total("it stays 7", h, 0, 4 - 7);
        }
    }

    private static void totals() {
        DUE.by("An ASK (4; 5): the TOTAL.");
        ContactHouse h = house(SINGLE, 0);
        for (int off : new int[] {3, -1, 12, Integer.MIN_VALUE, Integer.MAX_VALUE}) {
            DUE.ask(h, "station " + off, h.total(off), 0, 4);
        }
        Due.rule(h, "/ 1 0");
        DUE.ask(h, "station 3 ahead of 5", h.total(3), 0, 4);
        DUE.ask(h, "divided by 0", h.total(0), 0, 5);
        Due.log(h, 0, 0, "q 1000 B1 7 7");
        Due.log(h, 0, 2, "q 1000 A1 7 7");
        total("no contact with WHY 0 is worked", h, 0, 0);
    }

    private static void rates() {
        DUE.by("how many contacts with WHY 0 there are in an hour: 3600 times how many,"
            + " divided by the last MOMENT of all its contacts less the first one");
        ContactHouse h = Due.houseOf("A1", "B1", "C1");
        Due.log(h, 0, 0, "q 1000 B1 1 1", "q 1001 B1 9 9");
        Due.log(h, 1, 0, "q 1000 A1 1 1", "q 0 Z", "q 3600 Z");
        Due.log(h, 0, 2, "q 1001 C1 2 2");
        Due.log(h, 2, 2, "q 1001 A1 2 2", "q 1001 A1 3 3", "q 9999999999 Z");
        DUE.ask(h, "two in a second", h.rate(0), 7200, 0);
        DUE.ask(h, "one in an hour, lines not in order", h.rate(1), 1, 0);
        DUE.ask(h, "one in far more", h.rate(2), 0, 0);
        Due.log(h, 0, 1, "r 0 9999999999", "x");
        DUE.ask(h, "rests are no contacts", h.rate(0), 7200, 0);
        Due.log(h, 0, 1, "q 5 Z");
        DUE.ask(h, "contacts that do not count are", h.rate(0), 7200 / 996, 0);
        Due.log(h, 0, 1, "q 9999999999 Z");
        DUE.ask(h, "on any band", h.rate(0), 0, 0);
        Due.rule(h, "/ 1 0");
        Due.log(h, 0, 1, "x");
        DUE.ask(h, "no rule is worked", h.rate(0), 7200, 0);
    }

    private static void cutOff() {
        DUE.by("(0 without a contact), cut off.");
        int[] spans = {3600, 3601, 7200, 1800, 1801, 1799, 1, 4000};
        long[] rates = {1, 0, 0, 2, 1, 2, 3600, 0};
        for (int n = 0; n < spans.length; n++) {
            ContactHouse h = Due.houseOf("A1", "B1");
            Due.log(h, 0, 0, "q 100 B1 1 1", "q " + (100 + spans[n]) + " Z");
            Due.log(h, 1, 0, "q 100 A1 1 1");
            DUE.ask(h, "one in " + spans[n], h.rate(0), rates[n], 0);
        }
        ContactHouse h = Due.houseOf("A1", "B1");
        Due.log(h, 1, 0, "q 100 A1 1 1");
        for (String lines : new String[] {"", "x", "r 1 100", "q", "q 100 B1 1 1", "q 0 Z", "q 100 B1 1 1\nq 100 Z"}) {
            Due.log(h, 0, 0, lines);
            DUE.ask(h, "divided by 0 of '" + lines + "'", h.rate(0), 0, 5);
        }
    }

    private static void findingsOfRates() {
        DUE.by("An ASK (4; 7: it has no log; 5):");
        ContactHouse h = Due.houseOf("A1", "B1");
        Due.station(h, "T1", TEAM, 0, 0, 0);
        for (int off : new int[] {3, -1, 12, Integer.MIN_VALUE, Integer.MAX_VALUE}) {
            DUE.ask(h, "station " + off, h.rate(off), 0, 4);
        }
        DUE.ask(h, "no log", h.rate(0), 0, 7);
        DUE.ask(h, "a team", h.rate(2), 0, 7);
        for (int band = 0; band < 3; band++) {
            ContactHouse one = Due.houseOf("A1");
            Due.log(one, 0, band, "q 0 Z", "q 1 Z");
            DUE.ask(one, "a log of band " + band, one.rate(0), 0, 0);
        }
    }

    private static void places() {
        DUE.by("its PLACE: 1 and how many stations that are neither have a greater TOTAL");
        ContactHouse first = house(SINGLE, 0);
        DUE.ask(first, "nothing was asked ahead", first.place(1), 2, 0);
        ContactHouse h = new ContactHouse();
        for (int n = 0; n < 12; n++) {
            Due.station(h, "A" + (char) ('A' + n), n == 0 ? CHECK : n == 1 ? TEAM : n < 6 ? PORTABLE : n < 9 ? SINGLE : MULTI, 0, 0, 0);
        }
        for (int s = 2; s < 12; s++) {
            DUE.ask(h, "four of 50, six of 0: station " + s, h.place(s), s < 6 ? 1 : 5, 0);
        }
        for (int s = 2; s < 6; s++) {
            h.join(1, s);
        }
        DUE.is("a team of 200", h.total(1), 200);
        DUE.ask(h, "it does not count", h.place(2), 1, 0);
        h.penalty(1000);
        Due.log(h, 2, 0, "q 1 ZG 1 1");
        Due.log(h, 6, 0, "q 1 AC 1 1");
        DUE.is("misheard", h.total(2), 50 - 666);
        DUE.ask(h, "the last", h.place(2), 10, 0);
        DUE.ask(h, "one fewer is ahead", h.place(6), 4, 0);
    }

    private static void placesDividedByZero() {
        DUE.by("(one whose RULE divides by 0 has 0).");
        ContactHouse h = house(SINGLE, 0);
        Due.station(h, "D1", SINGLE, 0, 0, 0);
        Due.rule(h, "/ 2 - band 2");
        DUE.ask(h, "A1 divides by 0", h.total(0), 0, 5);
        DUE.is("B1 has", h.total(1), -1);
        DUE.ask(h, "C1 divides by 0", h.total(2), 0, 5);
        DUE.ask(h, "place of A1", h.place(0), 1, 0);
        DUE.ask(h, "place of B1", h.place(1), 4, 0);
        DUE.ask(h, "place of C1", h.place(2), 1, 0);
        DUE.ask(h, "place of D1", h.place(3), 1, 0);
        Due.rule(h, "/ 2 - 2 band");
        DUE.is("B1 has", h.total(1), 1);
        DUE.ask(h, "place of A1", h.place(0), 2, 0);
        DUE.ask(h, "place of B1", h.place(1), 1, 0);
    }

    private static void findingsOfPlaces() {
        DUE.by("An ASK (4; 7: a TEAM or a CHECK):");
        ContactHouse h = new ContactHouse();
        for (int kind = 0; kind <= 4; kind++) {
            Due.station(h, "K" + kind, kind, 0, 0, 0);
        }
        int[] places = {2, 2, 1, 0, 0};
        for (int kind = 0; kind <= 4; kind++) {
            DUE.ask(h, "kind " + kind, h.place(kind), places[kind], kind < 3 ? 0 : 7);
        }
        for (int off : new int[] {5, -1, 12, Integer.MIN_VALUE, Integer.MAX_VALUE}) {
            DUE.ask(h, "station " + off, h.place(off), 0, 4);
        }
    }

    public static void main(String[] args) {
        pointsByCall();
        whichAreAddedUp();
        bandsAndZones();
        theMostZones();
        penaltyOfMisheard();
        ofASingle();
        ofAMulti();
        ofAPortable();
        ofACheck();
        ofATeam();
        wrapping();
        penalties();
        noPenalty();
        totals();
        rates();
        cutOff();
        findingsOfRates();
        places();
        placesDividedByZero();
        findingsOfPlaces();
        DUE.end();
    }
}
