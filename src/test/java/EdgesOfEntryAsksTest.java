/** Promises 11 (lines) to 15 (number), a sentence at a time. */
public final class EdgesOfEntryAsksTest {
    private static final Due DUE = new Due("EdgesOfEntryAsksTest");
    private static final int TEAM = 11;
    private static final int[] OFF = {-1, Integer.MIN_VALUE, Integer.MAX_VALUE, 256, -256};

    private interface Ask {
        long of(int s, int band, int i);
    }

    /** Twelve stations, the last a TEAM; station 10 has 16 lines on band 2 and none on band 1. */
    private static ContactHouse house() {
        ContactHouse h = new ContactHouse();
        for (int n = 0; n < 12; n++) {
            Due.station(h, "A" + n, n == TEAM ? 4 : 0, 0, 0, 0);
        }
        String first = "q 9999999999 K9ABCD 0 99999\nr 9999999999 0\nx q\nq 0 Z\nq 7 Y0 5\n";
        Due.log(h, 10, 2, first + "x\n".repeat(10) + "q 3 LAST 1 2");
        Due.log(h, 10, 1, "");
        return h;
    }

    /** (4, 6, 1), in this order: with a finding that is named earlier, a later one does not show. */
    private static void log(ContactHouse h, Ask ask) {
        for (int off : OFF) {
            DUE.ask(h, "station " + off, ask.of(off, 2, 0), 0, 4);
            DUE.ask(h, "band " + off, ask.of(10, off, 0), 0, 6);
        }
        DUE.ask(h, "station 12", ask.of(12, 2, 0), 0, 4);
        DUE.ask(h, "station 12 and band 3", ask.of(12, 3, 99), 0, 4);
        DUE.ask(h, "band 3", ask.of(10, 3, 0), 0, 6);
        DUE.ask(h, "band 3 of a station without a log", ask.of(0, 3, 99), 0, 6);
        DUE.ask(h, "band 3 of a team", ask.of(TEAM, 3, 99), 0, 6);
        DUE.ask(h, "a missing log", ask.of(10, 0, 99), 0, 1);
        DUE.ask(h, "another station's", ask.of(9, 2, 0), 0, 1);
        for (int band = 0; band < 3; band++) {
            DUE.ask(h, "a team's", ask.of(TEAM, band, 99), 0, 1);
        }
    }

    /** (4, 6, 1, 2: the line). */
    private static void line(ContactHouse h, Ask ask) {
        log(h, ask);
        for (int off : OFF) {
            DUE.ask(h, "line " + off, ask.of(10, 2, off), 0, 2);
        }
        DUE.ask(h, "line 16 of 16", ask.of(10, 2, 16), 0, 2);
        DUE.ask(h, "line 0 of none", ask.of(10, 1, 0), 0, 2);
    }

    private static void lines() {
        DUE.by("An ASK (4, 6, 1): how many lines.");
        ContactHouse h = house();
        log(h, (s, band, i) -> h.lines(s, band));
        DUE.ask(h, "16 lines", h.lines(10, 2), 16, 0);
        DUE.ask(h, "none", h.lines(10, 1), 0, 0);
    }

    private static void entries() {
        DUE.by("An ASK (4, 6, 1, 2: the line): 0 a CONTACT, 1 a REST, 2 a REMARK.");
        ContactHouse h = house();
        line(h, h::entry);
        int[] kinds = {0, 1, 2, 0, 0};
        for (int i = 0; i < kinds.length; i++) {
            DUE.ask(h, "line " + i, h.entry(10, 2, i), kinds[i], 0);
        }
        DUE.ask(h, "line 14", h.entry(10, 2, 14), 2, 0);
        DUE.ask(h, "line 15", h.entry(10, 2, 15), 0, 0);
    }

    private static void moments() {
        DUE.by("An ASK (4, 6, 1, 2: the line; 3: a REMARK; 2: k is not 0, or 0 and 1 of a REST): the k-th MOMENT.");
        ContactHouse h = house();
        line(h, (s, band, i) -> h.moment(s, band, i, 0));
        line(h, (s, band, i) -> h.moment(s, band, i, 2));
        DUE.ask(h, "the greatest", h.moment(10, 2, 0, 0), 9999999999L, 0);
        DUE.ask(h, "the least", h.moment(10, 2, 3, 0), 0, 0);
        DUE.ask(h, "the last line's", h.moment(10, 2, 15, 0), 3, 0);
        DUE.ask(h, "a rest's first", h.moment(10, 2, 1, 0), 9999999999L, 0);
        DUE.ask(h, "a rest's second", h.moment(10, 2, 1, 1), 0, 0);
        DUE.ask(h, "a contact's second", h.moment(10, 2, 0, 1), 0, 2);
        DUE.ask(h, "a rest's third", h.moment(10, 2, 1, 2), 0, 2);
        DUE.ask(h, "a remark's first", h.moment(10, 2, 2, 0), 0, 3);
        for (int off : OFF) {
            DUE.ask(h, "a contact's " + off, h.moment(10, 2, 0, off), 0, 2);
            DUE.ask(h, "a rest's " + off, h.moment(10, 2, 1, off), 0, 2);
            DUE.ask(h, "a remark's " + off, h.moment(10, 2, 2, off), 0, 3);
        }
    }

    private static void characters() {
        DUE.by("An ASK (4, 6, 1, 2: the line; 3: no CONTACT; 2: it has no such character): character k of the CALL.");
        ContactHouse h = house();
        line(h, (s, band, i) -> h.character(s, band, i, 0));
        line(h, (s, band, i) -> h.character(s, band, i, 7));
        String[] calls = {"K9ABCD", "", "", "Z", "Y0"};
        for (int i = 0; i < calls.length; i++) {
            for (int k = 0; k < calls[i].length(); k++) {
                DUE.ask(h, "character " + k + " of " + calls[i], h.character(10, 2, i, k), calls[i].charAt(k), 0);
            }
            int finding = calls[i].isEmpty() ? 3 : 2;
            DUE.ask(h, "the one behind " + calls[i], h.character(10, 2, i, calls[i].length()), 0, finding);
            for (int off : OFF) {
                DUE.ask(h, "character " + off, h.character(10, 2, i, off), 0, finding);
            }
        }
        DUE.ask(h, "of the last line", h.character(10, 2, 15, 3), 'T', 0);
    }

    private static void numbers() {
        DUE.by("An ASK (4, 6, 1, 2: the line; 3: no CONTACT; 2: k is not 0, 1, or it lacks): what was SENT (k is 0), GOT (1).");
        ContactHouse h = house();
        line(h, (s, band, i) -> h.number(s, band, i, 0));
        line(h, (s, band, i) -> h.number(s, band, i, 2));
        DUE.ask(h, "sent 0", h.number(10, 2, 0, 0), 0, 0);
        DUE.ask(h, "got 99999", h.number(10, 2, 0, 1), 99999, 0);
        DUE.ask(h, "number 2", h.number(10, 2, 0, 2), 0, 2);
        DUE.ask(h, "sent lacks", h.number(10, 2, 3, 0), 0, 2);
        DUE.ask(h, "got lacks with it", h.number(10, 2, 3, 1), 0, 2);
        DUE.ask(h, "sent does not lack", h.number(10, 2, 4, 0), 5, 0);
        DUE.ask(h, "got lacks alone", h.number(10, 2, 4, 1), 0, 2);
        DUE.ask(h, "the last line's", h.number(10, 2, 15, 1), 2, 0);
        for (int off : OFF) {
            DUE.ask(h, "number " + off, h.number(10, 2, 0, off), 0, 2);
            DUE.ask(h, "number " + off + " of a rest", h.number(10, 2, 1, off), 0, 3);
        }
        DUE.ask(h, "of a rest", h.number(10, 2, 1, 0), 0, 3);
        DUE.ask(h, "of a remark", h.number(10, 2, 2, 1), 0, 3);
    }

    /** (4, 6, 1, 2: the line; 3: no CONTACT), as promise 17 tells it for four asks. */
    private static void contact(ContactHouse h, Ask ask) {
        line(h, ask);
        DUE.ask(h, "a rest", ask.of(10, 2, 1), 0, 3);
        DUE.ask(h, "a remark", ask.of(10, 2, 2), 0, 3);
    }

    private static void pairs() {
        DUE.by("An ASK (4, 6, 1, 2: the line; 3: no CONTACT):");
        ContactHouse h = house();
        contact(h, h::pair);
        DUE.ask(h, "a contact", h.pair(10, 2, 15), -1, 0);
    }

    private static void whys() {
        DUE.by("An ASK (as pair()): WHY.");
        ContactHouse h = house();
        contact(h, h::why);
        DUE.ask(h, "a contact", h.why(10, 2, 15), 4, 0);
    }

    private static void meants() {
        DUE.by("An ASK (as pair()): the station that is MEANT");
        ContactHouse h = house();
        contact(h, h::meant);
        DUE.ask(h, "a contact", h.meant(10, 2, 15), -1, 0);
    }

    private static void points() {
        DUE.by("An ASK (as pair(), then 5): the POINTS.");
        ContactHouse h = house();
        contact(h, h::points);
        Due.rule(h, "/ 1 0");
        contact(h, h::points);
        DUE.ask(h, "no station's call: no rule is worked", h.points(10, 2, 15), 0, 0);
        Due.log(h, 10, 2, "x", "r 1 2", "q 1 A0", "q 1 A10", "q 1 A11");
        DUE.ask(h, "a remark, ahead of 5", h.points(10, 2, 0), 0, 3);
        DUE.ask(h, "a rest, ahead of 5", h.points(10, 2, 1), 0, 3);
        for (int i = 2; i <= 4; i++) {
            DUE.ask(h, "a station's call", h.points(10, 2, i), 0, 5);
        }
    }

    public static void main(String[] args) {
        lines();
        entries();
        moments();
        characters();
        numbers();
        pairs();
        whys();
        meants();
        points();
        DUE.end();
    }
}
