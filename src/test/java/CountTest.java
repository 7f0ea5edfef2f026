/** Promises 26 (finding) and 27 (count). */
public final class CountTest {
    private static final Due DUE = new Due("CountTest");

    private static void counts(ContactHouse h, String what, int opened, int asks, int findings) {
        DUE.is(what + ": opened", h.count(3), opened);
        DUE.is(what + ": closed", h.count(4), opened);
        DUE.is(what + ": asks", h.count(5), asks);
        DUE.is(what + ": findings", h.count(6), findings);
    }

    private static void asks() {
        ContactHouse h = new ContactHouse();
        Due.station(h, "A1");
        Due.station(h, "T1", 4, 0, 0, 0);
        h.join(1, 0);
        Due.log(h, 0, 0, "q 1 B 1 1", "q 2 B 1 1");
        h.publish();
        h.wrong(0);
        counts(h, "none of these is an ask", 0, 0, 0);
        h.lines(0, 0);
        h.entry(0, 0, 0);
        h.moment(0, 0, 0, 0);
        h.character(0, 0, 0, 0);
        h.number(0, 0, 0, 0);
        counts(h, "entries", 5, 5, 0);
        h.offset(0);
        h.pair(0, 0, 0);
        h.why(0, 0, 0);
        h.meant(0, 0, 0);
        h.points(0, 0, 0);
        h.total(1);
        h.rate(0);
        h.place(0);
        h.known(1, 0);
        counts(h, "checking, a log each", 14, 14, 0);
        h.lines(2, 0);
        h.entry(2, 0, 0);
        h.moment(2, 0, 0, 0);
        h.character(2, 0, 0, 0);
        h.number(2, 0, 0, 0);
        h.offset(2);
        h.pair(2, 0, 0);
        h.why(2, 0, 0);
        h.meant(2, 0, 0);
        h.points(2, 0, 0);
        h.total(2);
        h.rate(2);
        h.place(2);
        h.known(1, 2);
        counts(h, "there is no such log to open", 14, 28, 14);
        h.lines(0, 1);
        h.entry(0, 0, 9);
        h.place(1);
        h.offset(1);
        h.known(9, 0);
        Due.rule(h, "/ 1 0");
        h.total(0);
        counts(h, "findings with a log", 20, 34, 19);
    }

    private static void findings() {
        ContactHouse h = new ContactHouse();
        Due.station(h, "A1");
        h.lines(0, 7);
        DUE.is("finding()", h.finding(), 6);
        DUE.is("it stays", h.finding(), 6);
        h.publish();
        h.window(-1);
        h.wrong(3);
        h.count(9);
        Due.log(h, 0, 0, "q");
        DUE.is("others leave it", h.finding(), 6);
        h.lines(0, 0);
        DUE.is("the latest ask's", h.finding(), 0);
    }

    private static void others() {
        ContactHouse h = new ContactHouse();
        Due.station(h, "A1");
        Due.station(h, "B1");
        DUE.is("stations", h.count(0), 2);
        h.feed(0, 0, 0, 0, 0);
        h.end(7);
        DUE.is("bytes", h.count(1), 7);
        h.end(0);
        Due.log(h, 0, 0, "q", "x", "z");
        DUE.is("wrong lines", h.count(2), 2);
        h.publish();
        h.publish();
        DUE.is("editions", h.count(7), 2);
        for (int what : new int[] {-1, 8, Integer.MIN_VALUE, Integer.MAX_VALUE}) {
            DUE.is("count(" + what + ")", h.count(what), -1);
        }
    }

    public static void main(String[] args) {
        asks();
        findings();
        others();
        DUE.end();
    }
}
