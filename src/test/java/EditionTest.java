/** Promises 24 (publish) and 25 (known). */
public final class EditionTest {
    private static final Due DUE = new Due("EditionTest");

    private static void editions() {
        ContactHouse h = new ContactHouse();
        Due.station(h, "A1");
        Due.station(h, "B1", 1, 0, 0, 0);
        Due.station(h, "T1", 4, 0, 0, 0);
        h.join(2, 0);
        DUE.is("publish()", h.publish(), 1);
        Due.log(h, 0, 1, "q 1 B1 1 1");
        Due.log(h, 1, 1, "q 1 A1 1 1");
        Due.rule(h, "9");
        DUE.ask(h, "as it was", h.known(1, 0), 0, 0);
        DUE.is("publish()", h.publish(), 2);
        Due.station(h, "C1", 2, 0, 0, 0);
        Due.rule(h, "/ 1 - band 1");
        DUE.is("publish()", h.publish(), 3);
        DUE.ask(h, "of a SINGLE", h.known(2, 0), 9, 0);
        DUE.ask(h, "of a MULTI", h.known(2, 1), 6, 0);
        DUE.ask(h, "of a team", h.known(2, 2), 9, 0);
        DUE.ask(h, "it was not there then", h.known(2, 3), 0, 2);
        DUE.ask(h, "divided by 0", h.known(3, 0), 0, 0);
        DUE.ask(h, "a team's", h.known(3, 2), 0, 0);
        DUE.ask(h, "it was there then", h.known(3, 3), 50, 0);
        DUE.ask(h, "the first", h.known(1, 1), 0, 0);
        DUE.ask(h, "edition 0", h.known(0, 0), 0, 2);
        DUE.ask(h, "edition 4", h.known(4, 0), 0, 2);
        DUE.ask(h, "edition -1", h.known(-1, 0), 0, 2);
        DUE.ask(h, "the least edition", h.known(Integer.MIN_VALUE, 0), 0, 2);
        DUE.ask(h, "no such station", h.known(1, 4), 0, 4);
        DUE.ask(h, "station -1", h.known(1, -1), 0, 4);
        DUE.ask(h, "neither", h.known(0, -1), 0, 4);
    }

    /** An edition is of what is there now, whether something was asked ahead of it or not. */
    private static void alone() {
        ContactHouse h = new ContactHouse();
        Due.station(h, "A1");
        Due.station(h, "B1");
        Due.log(h, 0, 0, "q 1 B1 1 1");
        Due.log(h, 1, 0, "q 1 A1 1 2");
        h.publish();
        Due.log(h, 1, 0, "q 1 A1 1 1");
        h.publish();
        DUE.is("no pair", h.known(1, 0), 0);
        DUE.is("a pair", h.known(2, 0), 1);
    }

    private static void twenty() {
        ContactHouse h = new ContactHouse();
        Due.station(h, "A1", 2, 0, 0, 0);
        ContactHouse other = new ContactHouse();
        for (int n = 1; n <= 20; n++) {
            DUE.is("publish() " + n, h.publish(), n);
        }
        DUE.is("a twenty-first", h.publish(), -1);
        DUE.is("count(7)", h.count(7), 20);
        DUE.ask(h, "the last", h.known(20, 0), 50, 0);
        DUE.ask(h, "none behind it", h.known(21, 0), 0, 2);
        DUE.is("another house has its own", other.publish(), 1);
    }

    public static void main(String[] args) {
        editions();
        alone();
        twenty();
        DUE.end();
    }
}
