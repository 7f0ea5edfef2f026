/** The tape of section 2 and promises 1 (a new object), 2 (feed) and 3 (end), a sentence at a time. */
public final class EdgesOfTapeTest {
    private static final Due DUE = new Due("EdgesOfTapeTest");

    private static void newHouse() {
        DUE.by("No stations; an empty TAPE;");
        ContactHouse h = new ContactHouse();
        for (int what = 0; what <= 7; what++) {
            DUE.is("count(" + what + ")", h.count(what), 0);
        }
        DUE.is("end(1)", h.end(1), -1);
        DUE.is("wrong(0)", h.wrong(0), -1);
        DUE.ask(h, "total(0)", h.total(0), 0, 4);
        DUE.is("a tape of none is no call", h.station(0, 0, 0, 0), -2);
        DUE.is("the first station", Due.station(h, "A"), 0);
    }

    /** Two pairs on band 2 keep both clocks as they are. */
    private static ContactHouse pairOf(String mine, String theirs) {
        ContactHouse h = Due.houseOf("A1", "B1");
        Due.log(h, 0, 0, mine);
        Due.log(h, 1, 0, theirs);
        Due.log(h, 0, 2, "q 5000 B1 7 7", "q 6000 B1 8 8");
        Due.log(h, 1, 2, "q 5000 A1 7 7", "q 6000 A1 8 8");
        return h;
    }

    private static void newSettings() {
        DUE.by("WINDOW 60, PENALTY 0, RULE 1;");
        DUE.is("60 seconds", pairOf("q 100 B1 1 2", "q 160 A1 2 1").pair(0, 0, 0), 100);
        DUE.is("61 seconds", pairOf("q 100 B1 1 2", "q 161 A1 2 1").pair(0, 0, 0), -1);
        ContactHouse h = pairOf("q 100 B2 1 2", "q 100 A1 2 1");
        DUE.is("a misheard one", h.why(0, 0, 0), 3);
        DUE.is("it costs nothing", h.total(0), 1);
        DUE.is("a contact's points", h.points(0, 2, 0), 1);
    }

    private static void newEditions() {
        DUE.by("no editions; FINDING 0.");
        ContactHouse h = Due.houseOf("A1");
        DUE.is("finding()", h.finding(), 0);
        DUE.is("count(7)", h.count(7), 0);
        DUE.ask(h, "known(1, 0)", h.known(1, 0), 0, 2);
        DUE.ask(h, "known(0, 0)", h.known(0, 0), 0, 2);
        ContactHouse other = new ContactHouse();
        DUE.is("the finding of another house", other.finding(), 0);
        DUE.is("the stations of another house", other.count(0), 0);
    }

    /** Feeds fifty times, each with the next bytes of the alphabet A .. T. */
    private static ContactHouse full() {
        ContactHouse h = new ContactHouse();
        for (int n = 1; n <= 50; n++) {
            DUE.is("feed " + n, h.feed(0x41424344, 0x45464748, 0x494A4B4C, 0x4D4E4F50, 0x51525354), 20 * n);
        }
        return h;
    }

    private static void thousandBytes() {
        DUE.by("THE TAPE has at most 1000 bytes;");
        ContactHouse h = full();
        DUE.is("count(1)", h.count(1), 1000);
        DUE.is("no more", h.feed(0, 0, 0, 0, 0), -1);
        DUE.is("all are kept", h.end(1000), 1000);
        DUE.is("and no more", h.end(1001), -1);
        Due.station(h, "A");
        Due.feed(h, "x " + "y".repeat(998));
        DUE.is("a line of 1000", h.log(0, 0), 1);
        Due.feed(h, " ".repeat(995) + "q 1 A");
        DUE.is("a line that ends with the 1000th", h.log(0, 0), 1);
        DUE.is("its last byte", h.character(0, 0, 0, 0), 'A');
        Due.feed(h, " ".repeat(999) + "7");
        DUE.is("a rule that ends with the 1000th", h.rule(), 1);
        DUE.is("it is the rule", h.points(0, 0, 0), 7);
    }

    private static void readersEmptyIt() {
        DUE.by("calls that read it empty it.");
        ContactHouse h = new ContactHouse();
        Due.feed(h, "A");
        h.station(0, 0, 0, 0);
        DUE.is("behind station()", h.count(1), 0);
        Due.feed(h, "x");
        h.log(0, 0);
        DUE.is("behind log()", h.count(1), 0);
        Due.feed(h, "x");
        h.log(7, 0);
        DUE.is("behind a refused log()", h.count(1), 0);
        Due.feed(h, "7");
        h.rule();
        DUE.is("behind rule()", h.count(1), 0);
        Due.feed(h, "?");
        h.rule();
        DUE.is("behind a refused rule()", h.count(1), 0);
        DUE.is("a byte fed then is the first", h.feed(0, 0, 0, 0, 0), 20);
    }

    private static void othersLeaveIt() {
        DUE.by("calls that read it empty it.");
        ContactHouse h = Due.houseOf("A");
        Due.log(h, 0, 0, "q 1 B 1 1");
        Due.feed(h, "ABC");
        h.join(0, 0);
        h.wrong(0);
        h.window(60);
        h.penalty(0);
        h.lines(0, 0);
        h.entry(0, 0, 0);
        h.moment(0, 0, 0, 0);
        h.character(0, 0, 0, 0);
        h.number(0, 0, 0, 0);
        h.offset(0);
        h.pair(0, 0, 0);
        h.why(0, 0, 0);
        h.meant(0, 0, 0);
        h.points(0, 0, 0);
        h.total(0);
        h.rate(0);
        h.place(0);
        h.publish();
        h.known(1, 0);
        h.finding();
        h.count(1);
        h.end(-1);
        h.end(4);
        DUE.is("bytes of the tape", h.count(1), 3);
        DUE.is("they are a call", h.station(0, 0, 0, 0), 1);
        Due.log(h, 1, 0, "q 1 ABC");
        DUE.is("of that station", h.points(1, 0, 0), 1);
    }

    /** Every one of the twenty bytes shows in what the line tells. */
    private static void twentyBytes() {
        DUE.by("Twenty bytes more of the TAPE, the highest of each number first: how many it has.");
        ContactHouse h = Due.houseOf("Z");
        DUE.is("q 12345 ABCDEF 67890", h.feed(0x71203132, 0x33343520, 0x41424344, 0x45462036, 0x37383930), 20);
        DUE.is("twenty more", h.feed(0x0A782041, 0x41414141, 0x41414141, 0x41414141, 0x41414141), 40);
        DUE.is("log", h.log(0, 0), 2);
        DUE.is("moment", h.moment(0, 0, 0, 0), 12345);
        for (int k = 0; k < 6; k++) {
            DUE.is("character " + k, h.character(0, 0, 0, k), 'A' + k);
        }
        DUE.is("sent", h.number(0, 0, 0, 0), 67890);
        DUE.is("the second line", h.entry(0, 0, 1), 2);
    }

    private static void highBytes() {
        DUE.by("Twenty bytes more of the TAPE, the highest of each number first: how many it has.");
        ContactHouse h = new ContactHouse();
        for (int number : new int[] {0xC1414141, 0x41C14141, 0x4141C141, 0x414141C1, -1, Integer.MIN_VALUE}) {
            DUE.is("feed " + number, h.feed(number, number, number, number, number), 20);
            h.end(4);
            DUE.is("a byte above 127 is no character", h.station(0, 0, 0, 0), -2);
        }
    }

    private static void fedTooMuch() {
        DUE.by("-1, and nothing is done: they would be more than 1000.");
        for (int size = 975; size <= 1000; size++) {
            ContactHouse h = full();
            h.end(size);
            int want = size <= 980 ? size + 20 : -1;
            DUE.is("feed behind " + size, h.feed(-1, -1, -1, -1, -1), want);
            DUE.is("bytes", h.count(1), want < 0 ? size : want);
            h.end(6);
            DUE.is("what was fed ahead stays", h.station(0, 0, 0, 0), 0);
        }
        ContactHouse h = Due.houseOf("A");
        Due.feed(h, "q 1 A" + " ".repeat(985) + "1234567890");
        h.end(995);
        DUE.is("five bytes would go in", h.feed(0x39393939, 0x39393939, 0, 0, 0), -1);
        DUE.is("log", h.log(0, 0), 1);
        DUE.is("none of them did", h.number(0, 0, 0, 0), 12345);
    }

    private static void keepsItsFirst() {
        DUE.by("The TAPE keeps its first n bytes: n.");
        ContactHouse h = Due.houseOf("Z");
        h.feed(0x71203120, 0x41424344, 0x45464748, 0, 0);
        DUE.is("end(20): all", h.end(20), 20);
        DUE.is("end(7)", h.end(7), 7);
        DUE.is("bytes", h.count(1), 7);
        DUE.is("end(7) once more", h.end(7), 7);
        DUE.is("what is fed then stands behind them", h.feed(0x31323320, 0x34350000, 0, 0, 0), 27);
        DUE.is("end(13)", h.end(13), 13);
        DUE.is("log", h.log(0, 0), 1);
        int[] call = {'A', 'B', 'C', '1', '2', '3'};
        for (int k = 0; k < call.length; k++) {
            DUE.is("character " + k, h.character(0, 0, 0, k), call[k]);
        }
        DUE.is("sent", h.number(0, 0, 0, 0), 45);
        h.feed(0, 0, 0, 0, 0);
        DUE.is("end(0): none", h.end(0), 0);
        DUE.is("bytes", h.count(1), 0);
        DUE.is("end(0) of none", h.end(0), 0);
    }

    private static void keepsTooMany() {
        DUE.by("-1, and nothing is done: it has not so many, or n is below 0.");
        ContactHouse h = new ContactHouse();
        DUE.is("end(1) of none", h.end(1), -1);
        DUE.is("end(-1) of none", h.end(-1), -1);
        h.feed(0x41424344, 0, 0, 0, 0);
        h.end(4);
        for (int n : new int[] {5, 20, 1000, 1001, -1, Integer.MAX_VALUE, Integer.MIN_VALUE}) {
            DUE.is("end(" + n + ") of 4", h.end(n), -1);
            DUE.is("bytes", h.count(1), 4);
        }
        DUE.is("they stay a call", h.station(0, 0, 0, 0), 0);
        h = full();
        DUE.is("end(1001) of 1000", h.end(1001), -1);
        DUE.is("bytes", h.count(1), 1000);
    }

    public static void main(String[] args) {
        newHouse();
        newSettings();
        newEditions();
        thousandBytes();
        readersEmptyIt();
        othersLeaveIt();
        twentyBytes();
        highBytes();
        fedTooMuch();
        keepsItsFirst();
        keepsTooMany();
        DUE.end();
    }
}
