/** Promise 16 (offset). */
public final class OffsetTest {
    private static final Due DUE = new Due("OffsetTest");

    private static ContactHouse house(int window, String[] mine, String[] theirs) {
        ContactHouse h = new ContactHouse();
        Due.station(h, "A");
        Due.station(h, "B");
        h.window(window);
        Due.log(h, 0, 0, mine);
        Due.log(h, 1, 0, theirs);
        return h;
    }

    private static String[] lines(String... lines) {
        return lines;
    }

    private static void offset(String what, ContactHouse h, long want) {
        DUE.ask(h, what, h.offset(0), want, 0);
    }

    private static void findings() {
        ContactHouse h = new ContactHouse();
        Due.station(h, "A");
        Due.station(h, "T", 4, 0, 0, 0);
        DUE.ask(h, "no such station", h.offset(2), 0, 4);
        DUE.ask(h, "station -1", h.offset(-1), 0, 4);
        DUE.ask(h, "no log", h.offset(0), 0, 7);
        DUE.ask(h, "a team", h.offset(1), 0, 7);
        Due.log(h, 0, 2, "");
        DUE.ask(h, "an empty log", h.offset(0), 0, 0);
    }

    private static void sizes() {
        offset("the edge of the window", house(10, lines("q 1000 B 1 2"), lines("q 1500 A 2 1")), 490);
        offset("below 0", house(10, lines("q 1500 B 1 2"), lines("q 1000 A 2 1")), -490);
        offset("just within the window", house(10, lines("q 1000 B 1 2"), lines("q 1010 A 2 1")), 0);
        offset("just beyond the window", house(10, lines("q 1000 B 1 2"), lines("q 1011 A 2 1")), 1);
        offset("no window", house(0, lines("q 1000 B 1 2"), lines("q 1001 A 2 1")), 1);
        offset("as far as moments go", house(0, lines("q 0 B 1 2"), lines("q 9999999999 A 2 1")), 9999999999L);
        offset("and back", house(0, lines("q 9999999999 B 1 2"), lines("q 0 A 2 1")), -9999999999L);
        offset("of two of one size", house(5, lines("q 1000 B 1 2"), lines("q 1100 A 2 1", "q 900 A 2 1")), -95);
        offset("of two of one size, the other first", house(5, lines("q 1000 B 1 2"), lines("q 900 A 2 1", "q 1100 A 2 1")), -95);
        offset("the lesser size", house(5, lines("q 1000 B 1 2"), lines("q 1100 A 2 1", "q 899 A 2 1")), 95);
    }

    private static void most() {
        String[] two = lines("q 100 B 1 1", "q 200 B 2 2");
        offset("half is not most", house(0, two, lines("q 150 A 1 1", "q 290 A 2 2")), 0);
        offset("both", house(0, two, lines("q 150 A 1 1", "q 250 A 2 2")), 50);
        offset("both, where the windows meet", house(10, two, lines("q 150 A 1 1", "q 265 A 2 2")), 55);
        offset("one agrees as it is, of one", house(0, lines("q 100 B 1 1"), lines("q 100 A 1 1", "q 150 A 1 1")), 0);
        String[] three = lines("q 100 B 1 1", "q 200 B 2 2", "q 300 B 3 3");
        offset("two of three by 0", house(0, three, lines("q 100 A 1 1", "q 200 A 2 2", "q 350 A 3 3")), 0);
        offset("two of three by 50", house(0, three, lines("q 100 A 1 1", "q 250 A 2 2", "q 350 A 3 3")), 50);
        offset("short ones count", house(0, lines("q 100 B 1 1", "q 5 B", "q 5 B 1"), lines("q 150 A 1 1")), 0);
        offset("other calls do not", house(0, lines("q 100 B 1 1", "q 5 C 1 1", "q 6 A 1 1", "r 1 2", "x"), lines("q 150 A 1 1")), 50);
        offset("a contact counts once", house(5, two, lines("q 150 A 1 1", "q 151 A 1 1", "q 152 A 1 1")), 0);
        offset("numbers are the other way round", house(0, lines("q 100 B 1 2"), lines("q 150 A 1 2")), 0);
    }

    private static void stationsAndBands() {
        ContactHouse h = new ContactHouse();
        for (String call : new String[] {"A", "B", "C", "D"}) {
            Due.station(h, call);
        }
        h.window(0);
        Due.log(h, 0, 0, "q 100 B 1 1", "q 200 D 1 1");
        Due.log(h, 0, 1, "q 300 C 1 1");
        Due.log(h, 1, 0, "q 170 A 1 1");
        Due.log(h, 2, 1, "q 370 A 1 1");
        offset("of several stations and bands; one without a log does not count", h, 70);
        Due.log(h, 3, 2, "x");
        offset("one with a log on another band does", h, 70);
        Due.log(h, 2, 1, "x");
        Due.log(h, 2, 0, "q 370 A 1 1");
        offset("a contact of another band does not agree", h, 0);
    }

    /** All that a station can hold: each contact answers to all of the other's on its band. */
    private static void full() {
        ContactHouse h = new ContactHouse();
        Due.station(h, "A");
        Due.station(h, "B");
        h.window(2);
        for (int band = 0; band < 3; band++) {
            String[] mine = new String[16];
            String[] theirs = new String[16];
            for (int i = 0; i < 16; i++) {
                mine[i] = "q " + (100 + i) + " B 1 1";
                theirs[i] = "q " + (700 + i) + " A 1 1";
            }
            Due.log(h, 0, band, mine);
            Due.log(h, 1, band, theirs);
        }
        // Those at 698 - o and later agree: nine of sixteen by 591, eight by 590.
        offset("full", h, 591);
    }

    /** The OFFSET of the other station is not looked at: each one's is worked by 0 of the others. */
    private static void bothAreOff() {
        ContactHouse h = house(10, lines("q 100 B 1 1"), lines("q 600 A 1 1"));
        offset("mine", h, 490);
        DUE.is("theirs", h.offset(1), -490);
    }

    public static void main(String[] args) {
        findings();
        sizes();
        most();
        stationsAndBands();
        full();
        bothAreOff();
        DUE.end();
    }
}
