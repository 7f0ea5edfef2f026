/** Promises 11 (lines), 12 (entry), 13 (moment), 14 (character) and 15 (number). */
public final class EntryAsksTest {
    private static final Due DUE = new Due("EntryAsksTest");

    private static final int STATION = 0;
    private static final int TEAM = 1;

    private interface Ask {
        long of(int s, int band, int i);
    }

    private static ContactHouse house() {
        ContactHouse h = new ContactHouse();
        Due.station(h, "A");
        Due.station(h, "T", 4, 0, 0, 0);
        Due.log(h, STATION, 1, "q 0017 K9ABCD 00042 99999", "r 9999999999 5", "x 1 2", "q 8 W", "q 9 W0 0");
        return h;
    }

    /** What the asks for a line have in common; a finding that is named later is had only without those before it. */
    private static void common(ContactHouse h, String name, Ask ask) {
        DUE.ask(h, name + " of no station", ask.of(2, 3, 9), 0, 4);
        DUE.ask(h, name + " of station -1", ask.of(-1, 1, 0), 0, 4);
        DUE.ask(h, name + " of no band", ask.of(STATION, 3, 9), 0, 6);
        DUE.ask(h, name + " of band -1", ask.of(STATION, -1, 0), 0, 6);
        DUE.ask(h, name + " of a team and no band", ask.of(TEAM, 3, 0), 0, 6);
        DUE.ask(h, name + " of a missing log", ask.of(STATION, 0, 9), 0, 1);
        DUE.ask(h, name + " of a team", ask.of(TEAM, 1, 0), 0, 1);
    }

    private static void commonOfLines(ContactHouse h, String name, Ask ask) {
        common(h, name, ask);
        DUE.ask(h, name + " of no line", ask.of(STATION, 1, 5), 0, 2);
        DUE.ask(h, name + " of line -1", ask.of(STATION, 1, -1), 0, 2);
        DUE.ask(h, name + " of the greatest line", ask.of(STATION, 1, Integer.MAX_VALUE), 0, 2);
    }

    private static void lines() {
        ContactHouse h = house();
        common(h, "lines", (s, band, i) -> h.lines(s, band));
        DUE.ask(h, "lines", h.lines(STATION, 1), 5, 0);
        Due.log(h, STATION, 0, "");
        DUE.ask(h, "lines of an empty log", h.lines(STATION, 0), 0, 0);
    }

    private static void entries() {
        ContactHouse h = house();
        commonOfLines(h, "entry", (s, band, i) -> h.entry(s, band, i));
        DUE.ask(h, "a contact", h.entry(STATION, 1, 0), 0, 0);
        DUE.ask(h, "a rest", h.entry(STATION, 1, 1), 1, 0);
        DUE.ask(h, "a remark", h.entry(STATION, 1, 2), 2, 0);
    }

    private static void moments() {
        ContactHouse h = house();
        commonOfLines(h, "moment", (s, band, i) -> h.moment(s, band, i, 5));
        DUE.ask(h, "of a contact", h.moment(STATION, 1, 0, 0), 17, 0);
        DUE.ask(h, "a second one of a contact", h.moment(STATION, 1, 0, 1), 0, 2);
        DUE.ask(h, "moment -1 of a contact", h.moment(STATION, 1, 0, -1), 0, 2);
        DUE.ask(h, "the first of a rest", h.moment(STATION, 1, 1, 0), 9999999999L, 0);
        DUE.ask(h, "the second of a rest", h.moment(STATION, 1, 1, 1), 5, 0);
        DUE.ask(h, "a third one of a rest", h.moment(STATION, 1, 1, 2), 0, 2);
        DUE.ask(h, "moment -1 of a rest", h.moment(STATION, 1, 1, -1), 0, 2);
        DUE.ask(h, "of a remark", h.moment(STATION, 1, 2, 0), 0, 3);
        DUE.ask(h, "moment 9 of a remark", h.moment(STATION, 1, 2, 9), 0, 3);
    }

    private static void characters() {
        ContactHouse h = house();
        commonOfLines(h, "character", (s, band, i) -> h.character(s, band, i, 9));
        String call = "K9ABCD";
        for (int k = 0; k < 6; k++) {
            DUE.ask(h, "character " + k, h.character(STATION, 1, 0, k), call.charAt(k), 0);
        }
        DUE.ask(h, "character 6", h.character(STATION, 1, 0, 6), 0, 2);
        DUE.ask(h, "character -1", h.character(STATION, 1, 0, -1), 0, 2);
        DUE.ask(h, "the only one", h.character(STATION, 1, 3, 0), 'W', 0);
        DUE.ask(h, "behind the only one", h.character(STATION, 1, 3, 1), 0, 2);
        DUE.ask(h, "of a rest", h.character(STATION, 1, 1, 9), 0, 3);
        DUE.ask(h, "of a remark", h.character(STATION, 1, 2, 0), 0, 3);
    }

    private static void numbers() {
        ContactHouse h = house();
        commonOfLines(h, "number", (s, band, i) -> h.number(s, band, i, 9));
        DUE.ask(h, "sent", h.number(STATION, 1, 0, 0), 42, 0);
        DUE.ask(h, "got", h.number(STATION, 1, 0, 1), 99999, 0);
        DUE.ask(h, "number 2", h.number(STATION, 1, 0, 2), 0, 2);
        DUE.ask(h, "number -1", h.number(STATION, 1, 0, -1), 0, 2);
        DUE.ask(h, "sent lacks", h.number(STATION, 1, 3, 0), 0, 2);
        DUE.ask(h, "got lacks", h.number(STATION, 1, 3, 1), 0, 2);
        DUE.ask(h, "sent is 0", h.number(STATION, 1, 4, 0), 0, 0);
        DUE.ask(h, "got lacks behind it", h.number(STATION, 1, 4, 1), 0, 2);
        DUE.ask(h, "of a rest", h.number(STATION, 1, 1, 9), 0, 3);
        DUE.ask(h, "of a remark", h.number(STATION, 1, 2, 0), 0, 3);
    }

    private static void checkedAsks() {
        ContactHouse h = house();
        commonOfLines(h, "pair", (s, band, i) -> h.pair(s, band, i));
        commonOfLines(h, "why", (s, band, i) -> h.why(s, band, i));
        commonOfLines(h, "meant", (s, band, i) -> h.meant(s, band, i));
        commonOfLines(h, "points", (s, band, i) -> h.points(s, band, i));
        for (int line = 1; line <= 2; line++) {
            DUE.ask(h, "pair of no contact", h.pair(STATION, 1, line), 0, 3);
            DUE.ask(h, "why of no contact", h.why(STATION, 1, line), 0, 3);
            DUE.ask(h, "meant of no contact", h.meant(STATION, 1, line), 0, 3);
            DUE.ask(h, "points of no contact", h.points(STATION, 1, line), 0, 3);
        }
    }

    public static void main(String[] args) {
        lines();
        entries();
        moments();
        characters();
        numbers();
        checkedAsks();
        DUE.end();
    }
}
