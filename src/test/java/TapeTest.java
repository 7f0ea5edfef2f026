/** Promises 1 (a new object), 2 (feed), 3 (end), 9 (window) and 10 (penalty). */
public final class TapeTest {
    private static final Due DUE = new Due("TapeTest");

    private static void newObject() {
        ContactHouse h = new ContactHouse();
        for (int what = 0; what <= 7; what++) {
            DUE.is("new: count(" + what + ")", h.count(what), 0);
        }
        DUE.is("new: finding()", h.finding(), 0);
        DUE.is("new: wrong(0)", h.wrong(0), -1);
        DUE.ask(h, "new: lines(0, 0)", h.lines(0, 0), 0, 4);
        DUE.is("new: publish()", h.publish(), 1);
    }

    /** WINDOW 60, PENALTY 0 and RULE 1 show in the first pair, misheard contact and points. */
    private static void newSettings() {
        ContactHouse h = new ContactHouse();
        Due.station(h, "A1");
        Due.station(h, "B1");
        // The last two contacts keep the clocks as they are.
        Due.log(h, 0, 0, "q 100 B1 1 2", "q 200 B2 3 4", "q 300 B1 5 6", "q 900 B1 7 8", "q 900 B1 9 9");
        Due.log(h, 1, 0, "q 160 A1 2 1", "q 200 A1 4 3", "q 361 A1 6 5", "q 900 A1 8 7", "q 900 A1 9 9");
        DUE.is("new: 60 seconds agree", h.pair(0, 0, 0), 100);
        DUE.is("new: 61 seconds do not", h.pair(0, 0, 2), -1);
        DUE.is("new: misheard", h.why(0, 0, 1), 3);
        DUE.is("new: points are 1", h.points(0, 0, 0), 1);
        DUE.is("new: no penalty", h.total(0), 1);
    }

    private static void feeding() {
        ContactHouse h = new ContactHouse();
        for (int n = 1; n <= 50; n++) {
            DUE.is("feed " + n, h.feed(-1, n, 0, 0, 0), 20 * n);
        }
        DUE.is("feed beyond 1000", h.feed(0, 0, 0, 0, 0), -1);
        DUE.is("the tape stays full", h.count(1), 1000);
        DUE.is("end(981)", h.end(981), 981);
        DUE.is("feed beyond 1000 by one", h.feed(0, 0, 0, 0, 0), -1);
        DUE.is("end(980)", h.end(980), 980);
        DUE.is("feed up to 1000", h.feed(0, 0, 0, 0, 0), 1000);
    }

    private static void highestByteFirst() {
        ContactHouse h = new ContactHouse();
        Due.station(h, "Z");
        int contact = 'q' << 24 | ' ' << 16 | '1' << 8 | ' ';
        h.feed(contact, 'A' << 24 | 'B' << 16 | 'C' << 8 | 'D', 'E' << 24 | 'F' << 16 | ' ' << 8 | '2', 0, 0);
        h.end(12);
        DUE.is("log", h.log(0, 0), 1);
        for (int k = 0; k < 6; k++) {
            DUE.is("character " + k, h.character(0, 0, 0, k), 'A' + k);
        }
        DUE.is("number", h.number(0, 0, 0, 0), 2);
    }

    /** All five numbers are of the tape, in their order, and a later feed stands behind an earlier one. */
    private static void orderOfNumbers() {
        ContactHouse h = new ContactHouse();
        Due.station(h, "Z");
        Due.feed(h, "q 1234567890 ABCDEF 12345 67890");
        DUE.is("log", h.log(0, 0), 1);
        DUE.is("moment", h.moment(0, 0, 0, 0), 1234567890L);
        DUE.is("sent", h.number(0, 0, 0, 0), 12345);
        DUE.is("got", h.number(0, 0, 0, 1), 67890);
    }

    private static void ending() {
        ContactHouse h = new ContactHouse();
        DUE.is("end(0) of nothing", h.end(0), 0);
        DUE.is("end(1) of nothing", h.end(1), -1);
        h.feed(0, 0, 0, 0, 0);
        DUE.is("end(21)", h.end(21), -1);
        DUE.is("end(-1)", h.end(-1), -1);
        DUE.is("end(least int)", h.end(Integer.MIN_VALUE), -1);
        DUE.is("nothing is done", h.count(1), 20);
        DUE.is("end(20)", h.end(20), 20);
        DUE.is("end(7)", h.end(7), 7);
        DUE.is("end(8)", h.end(8), -1);
        DUE.is("it keeps 7", h.count(1), 7);
        DUE.is("feed behind them", h.feed(0, 0, 0, 0, 0), 27);
        DUE.is("end(0)", h.end(0), 0);
    }

    private static void settings() {
        ContactHouse h = new ContactHouse();
        DUE.is("window(0)", h.window(0), 1);
        DUE.is("window(3600)", h.window(3600), 1);
        DUE.is("window(-1)", h.window(-1), -1);
        DUE.is("window(3601)", h.window(3601), -1);
        DUE.is("penalty(0)", h.penalty(0), 1);
        DUE.is("penalty(1000)", h.penalty(1000), 1);
        DUE.is("penalty(-1)", h.penalty(-1), -1);
        DUE.is("penalty(1001)", h.penalty(1001), -1);
        Due.station(h, "A1");
        Due.station(h, "B1");
        Due.log(h, 0, 0, "q 0 B1 1 2", "q 10000 B2 3 4", "q 20000 B1 5 6");
        Due.log(h, 1, 0, "q 3600 A1 2 1", "q 10000 A1 4 3", "q 16399 A1 6 5");
        DUE.is("the window stayed 3600: 3600 seconds", h.pair(0, 0, 0), 100);
        DUE.is("the window stayed 3600: 3601 seconds", h.pair(0, 0, 2), -1);
        DUE.is("the penalty stayed 1000", h.total(0), -999);
        h.window(0);
        DUE.is("a window of 0: what is apart", h.pair(0, 0, 0), -1);
        DUE.is("a window of 0: what is not", h.why(0, 0, 1), 3);
    }

    public static void main(String[] args) {
        newObject();
        newSettings();
        feeding();
        highestByteFirst();
        orderOfNumbers();
        ending();
        settings();
        DUE.end();
    }
}
