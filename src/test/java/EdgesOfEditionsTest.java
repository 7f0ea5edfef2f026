/** Promises 24 (publish) and 25 (known), a sentence at a time. */
public final class EdgesOfEditionsTest {
    private static final Due DUE = new Due("EdgesOfEditionsTest");
    private static final int A = 0;
    private static final int B = 1;
    private static final int TEAM = 2;

    /** A pair of A and B on band 1, and a team that A joined. */
    private static ContactHouse house() {
        ContactHouse h = Due.houseOf("A1", "B1");
        Due.station(h, "T1", 4, 0, 0, 0);
        h.join(TEAM, A);
        Due.log(h, A, 1, "q 100 B1 1 1");
        Due.log(h, B, 1, "q 130 A1 1 1");
        return h;
    }

    private static void asTheyAreNow() {
        DUE.by("All TOTALS as they are now");
        ContactHouse h = house();
        h.window(10);
        Due.log(h, A, 0, "q 1 B1 1 1", "q 2 B1 2 2");
        Due.log(h, B, 0, "q 1 A1 1 1", "q 2 A1 2 2");
        DUE.is("nothing was asked ahead", h.publish(), 1);
        h.window(30);
        DUE.is("by another window", h.publish(), 2);
        Due.rule(h, "7");
        DUE.is("by another rule", h.publish(), 3);
        Due.log(h, B, 0, "x");
        DUE.is("by another log", h.publish(), 4);
        Due.log(h, B, 0, "q 9000 A2 1 1", "q 1 A1 1 2");
        Due.log(h, A, 0, "q 9000 B1 1 1");
        h.penalty(100);
        DUE.is("with a penalty", h.publish(), 5);
        h.join(TEAM, B);
        DUE.is("with another of the team", h.publish(), 6);
        int[][] totals = {{1, 1, 1}, {4, 4, 4}, {28, 28, 28}, {7, 7, 7}, {7, -93, 7}, {7, -93, -86}};
        for (int n = 0; n < totals.length; n++) {
            for (int s = 0; s < 3; s++) {
                DUE.ask(h, "edition " + (n + 1) + " of " + s, h.known(n + 1, s), totals[n][s], 0);
            }
        }
    }

    private static void dividedByZero() {
        DUE.by("(0, where the RULE divides by 0) are an EDITION.");
        ContactHouse h = house();
        Due.rule(h, "/ 1 0");
        DUE.is("publish()", h.publish(), 1);
        for (int s = 0; s < 3; s++) {
            DUE.ask(h, "of " + s, h.known(1, s), 0, 0);
        }
        Due.station(h, "P1", 2, 0, 0, 0);
        Due.log(h, 3, 0, "q 5 A1 1 1");
        Due.log(h, A, 0, "q 5 P1 1 1");
        h.join(TEAM, 3);
        Due.rule(h, "/ 5 band");
        DUE.is("publish()", h.publish(), 2);
        int[] totals = {0, 5, 0, 0};
        for (int s = 0; s < 4; s++) {
            DUE.ask(h, "some of them, of " + s, h.known(2, s), totals[s], 0);
        }
    }

    private static void itsNumber() {
        DUE.by("Answers its number: one more than that of the latest one of this house (1 for the first; none is given twice).");
        ContactHouse h = house();
        ContactHouse other = new ContactHouse();
        for (int n = 1; n <= 10; n++) {
            DUE.is("publish() " + n, h.publish(), n);
            DUE.is("editions", h.count(7), n);
            if (n % 2 == 0) {
                DUE.is("of another house, without a station", other.publish(), n / 2);
            }
        }
        DUE.is("editions of another house", other.count(7), 5);
    }

    private static void twenty() {
        DUE.by("-1: this house has 20.");
        ContactHouse h = house();
        for (int n = 1; n <= 20; n++) {
            Due.rule(h, "" + n);
            DUE.is("publish() " + n, h.publish(), n);
        }
        Due.rule(h, "77");
        for (int n = 0; n < 3; n++) {
            DUE.is("one more", h.publish(), -1);
            DUE.is("editions", h.count(7), 20);
        }
        for (int n = 1; n <= 20; n++) {
            DUE.ask(h, "edition " + n + " stays", h.known(n, A), n, 0);
        }
        DUE.ask(h, "edition 21", h.known(21, A), 0, 2);
        DUE.is("another house may", new ContactHouse().publish(), 1);
    }

    private static void noAsk() {
        DUE.by("All TOTALS as they are now (0, where the RULE divides by 0) are an EDITION.");
        ContactHouse h = house();
        h.lines(9, 0);
        Due.rule(h, "/ 1 0");
        h.publish();
        DUE.is("the finding stays", h.finding(), 4);
        DUE.is("asks", h.count(5), 1);
        DUE.is("asks with a finding", h.count(6), 1);
        DUE.is("opened", h.count(3), 0);
        DUE.is("closed", h.count(4), 0);
    }

    private static void noSuchEdition() {
        DUE.by("An ASK (4; 2: there is no such EDITION of this house,");
        ContactHouse h = house();
        DUE.ask(h, "edition 1 of none", h.known(1, A), 0, 2);
        ContactHouse other = new ContactHouse();
        other.publish();
        DUE.ask(h, "another house's", h.known(1, A), 0, 2);
        h.publish();
        h.publish();
        for (int off : new int[] {0, -1, 3, 20, 21, Integer.MIN_VALUE, Integer.MAX_VALUE}) {
            DUE.ask(h, "edition " + off + " of 2", h.known(off, A), 0, 2);
        }
        for (int off : new int[] {3, -1, 12, Integer.MIN_VALUE, Integer.MAX_VALUE}) {
            DUE.ask(h, "station " + off, h.known(1, off), 0, 4);
            DUE.ask(h, "station " + off + " ahead of no edition", h.known(0, off), 0, 4);
        }
        DUE.ask(h, "the first", h.known(1, A), 1, 0);
        DUE.ask(h, "the latest", h.known(2, A), 1, 0);
    }

    private static void notThereThen() {
        DUE.by("or the station was not there then): the TOTAL of station s in that EDITION.");
        ContactHouse h = new ContactHouse();
        DUE.is("without a station", h.publish(), 1);
        for (int n = 0; n < 12; n++) {
            Due.station(h, "A" + n, 2, 0, 0, 0);
            DUE.is("with " + (n + 1), h.publish(), n + 2);
        }
        for (int n = 0; n <= 12; n++) {
            for (int s = 0; s < 12; s++) {
                DUE.ask(h, "station " + s + " of " + n, h.known(n + 1, s), s < n ? 50 : 0, s < n ? 0 : 2);
            }
        }
    }

    public static void main(String[] args) {
        asTheyAreNow();
        dividedByZero();
        itsNumber();
        twenty();
        noAsk();
        noSuchEdition();
        notThereThen();
        DUE.end();
    }
}
