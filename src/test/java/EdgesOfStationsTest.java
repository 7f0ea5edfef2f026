/** Section 1 of the document and promises 4 (station) and 5 (join), a sentence at a time. */
public final class EdgesOfStationsTest {
    private static final Due DUE = new Due("EdgesOfStationsTest");
    private static final int PORTABLE = 2;
    private static final int TEAM = 4;

    private static void atMostTwelve() {
        DUE.by("STATIONS, at most 12, are numbered from 0.");
        ContactHouse h = twelve();
        Due.station(h, "B");
        DUE.is("stations", h.count(0), 12);
        DUE.ask(h, "the first", h.total(0), 0, 0);
        DUE.ask(h, "the twelfth", h.total(11), 0, 0);
        DUE.ask(h, "a thirteenth", h.total(12), 0, 4);
        DUE.ask(h, "number -1", h.total(-1), 0, 4);
    }

    private static ContactHouse twelve() {
        ContactHouse h = new ContactHouse();
        for (int n = 0; n < 12; n++) {
            DUE.is("station " + n, Due.station(h, "A" + n), n);
        }
        return h;
    }

    private static void kinds() {
        DUE.by("Each has a KIND (0 SINGLE, 1 MULTI, 2 PORTABLE, 3 CHECK, 4 TEAM),");
        bounds(0, 4);
        ContactHouse h = new ContactHouse();
        for (int kind = 0; kind <= 4; kind++) {
            DUE.is("kind " + kind, Due.station(h, "K" + kind, kind, 0, 0, 0), kind);
        }
        Due.rule(h, "kind");
        Due.log(h, 0, 0, "q 1 K0", "q 1 K1", "q 1 K2", "q 1 K3", "q 1 K4");
        for (int kind = 0; kind <= 4; kind++) {
            DUE.is("the kind is kept", h.points(0, 0, kind), kind);
        }
    }

    private static void zones() {
        DUE.by("a ZONE (0 .. 39),");
        bounds(1, 39);
    }

    private static void squares() {
        DUE.by("a SQUARE (x and y, 0 .. 99),");
        bounds(2, 99);
        bounds(3, 99);
    }

    /** One of the four numbers of a station, from the least to the greatest, and beyond both. */
    private static void bounds(int place, int greatest) {
        ContactHouse h = new ContactHouse();
        for (int off : new int[] {-1, greatest + 1, -256, 256, Integer.MIN_VALUE, Integer.MAX_VALUE}) {
            DUE.is("number " + place + " is " + off, stationWith(h, "A", place, off), -1);
            DUE.is("there is none", h.count(0), 0);
        }
        DUE.is("number " + place + " is 0", stationWith(h, "A", place, 0), 0);
        DUE.is("number " + place + " is " + greatest, stationWith(h, "B", place, greatest), 1);
    }

    private static int stationWith(ContactHouse h, String call, int place, int number) {
        int[] n = new int[4];
        n[place] = number;
        return Due.station(h, call, n[0], n[1], n[2], n[3]);
    }

    private static void lengthsOfCalls() {
        DUE.by("and a CALL: 1 to 6 characters");
        for (int length : new int[] {0, 1, 2, 5, 6, 7, 8, 14, 20, 262, 1000}) {
            int want = length >= 1 && length <= 6 ? 0 : -2;
            DUE.is("a call of " + length, Due.station(new ContactHouse(), "A".repeat(length)), want);
        }
    }

    private static void charactersOfCalls() {
        DUE.by("characters 0 .. 9, A .. Z (48 .. 57, 65 .. 90);");
        for (int b = 0; b < 256; b++) {
            int want = b >= 48 && b <= 57 || b >= 65 && b <= 90 ? 0 : -2;
            for (int place = 0; place < 6; place++) {
                String call = "M".repeat(place) + (char) b + "M".repeat(5 - place);
                DUE.is("byte " + b + " at " + place, Due.station(new ContactHouse(), call), want);
            }
        }
    }

    private static void sameCalls() {
        DUE.by("no two have the same.");
        ContactHouse h = Due.houseOf("A0");
        DUE.is("the same of another kind", Due.station(h, "A0", TEAM, 7, 8, 9), -3);
        for (String call : new String[] {"0A", "A", "0", "A00", "AA0", "A1", "AO", "00000A", "A00000"}) {
            DUE.is(call + " is another", Due.station(h, call), h.count(0) - 1);
            DUE.is(call + " once more", Due.station(h, call), -3);
        }
    }

    private static void bands() {
        DUE.by("There are BANDS 0, 1, 2.");
        ContactHouse h = Due.houseOf("A");
        for (int band = 0; band <= 2; band++) {
            DUE.is("band " + band, Due.log(h, 0, band, "x\n".repeat(band + 1)), band + 1);
        }
        for (int band = 0; band <= 2; band++) {
            DUE.ask(h, "band " + band, h.lines(0, band), band + 1, 0);
        }
        for (int off : new int[] {-1, 3, Integer.MIN_VALUE, Integer.MAX_VALUE}) {
            DUE.is("log of band " + off, Due.log(h, 0, off, "x"), -1);
            DUE.ask(h, "lines of band " + off, h.lines(0, off), 0, 6);
        }
    }

    private static void missingLogs() {
        DUE.by("A station's LOG OF A BAND is MISSING, as at first, or a row of 0 to 16 ENTRIES, its lines from 0 on.");
        ContactHouse h = Due.houseOf("A");
        DUE.ask(h, "at first", h.lines(0, 0), 0, 1);
        DUE.is("a log of none", Due.log(h, 0, 0, ""), 0);
        DUE.ask(h, "none", h.lines(0, 0), 0, 0);
        DUE.ask(h, "it has no line 0", h.entry(0, 0, 0), 0, 2);
        DUE.is("a log of 16", Due.log(h, 0, 0, "r 1 2\n" + "x\n".repeat(14) + "q 1 B"), 16);
        DUE.ask(h, "16", h.lines(0, 0), 16, 0);
        DUE.ask(h, "line 0", h.entry(0, 0, 0), 1, 0);
        DUE.ask(h, "line 15", h.moment(0, 0, 15, 0), 1, 0);
        DUE.is("a log of none again", Due.log(h, 0, 0, ""), 0);
        DUE.ask(h, "it is not missing again", h.lines(0, 0), 0, 0);
        DUE.ask(h, "another band's is", h.lines(0, 1), 0, 1);
    }

    private static void hasALog() {
        DUE.by("A station HAS A LOG, if one of its three is not MISSING;");
        for (int band = 0; band <= 2; band++) {
            ContactHouse h = Due.houseOf("A", "B");
            DUE.ask(h, "it has none", h.offset(0), 0, 7);
            DUE.is("a log of none", h.log(0, band), 0);
            DUE.ask(h, "it has one by band " + band, h.offset(0), 0, 0);
            DUE.ask(h, "another station has none", h.offset(1), 0, 7);
        }
    }

    private static void teamsHaveNone() {
        DUE.by("a TEAM never has one.");
        ContactHouse h = new ContactHouse();
        Due.station(h, "T", TEAM, 0, 0, 0);
        for (int band = 0; band <= 2; band++) {
            DUE.is("a team's log", Due.log(h, 0, band, "x"), -2);
            DUE.ask(h, "its lines", h.lines(0, band), 0, 1);
        }
        DUE.ask(h, "its offset", h.offset(0), 0, 7);
    }

    private static void justAsItIs() {
        DUE.by("A new station, whose CALL is the TAPE, just as it is: its number.");
        ContactHouse h = new ContactHouse();
        for (String call : new String[] {" A", "A ", "A B", "A\n", "A\r", "\0A", "A\0"}) {
            DUE.is("'" + call + "'", Due.station(h, call), -2);
        }
        DUE.is("six bytes", Due.station(h, "9ABCZ0"), 0);
        DUE.is("one byte", Due.station(h, "7"), 1);
        Due.log(h, 0, 0, "q 1 9ABCZ0", "q 1 7", "q 1 9ABCZ", "q 1 07", "q 1 9ABCZ1");
        int[] points = {1, 1, 0, 0, 0};
        for (int i = 0; i < points.length; i++) {
            DUE.is("whether line " + i + " has a station's call", h.points(0, 0, i), points[i]);
        }
    }

    private static void refusedNumbers() {
        DUE.by("-1: a number is not as told in 1;");
        ContactHouse h = twelve();
        DUE.is("ahead of no call", Due.station(h, "", 5, 0, 0, 0), -1);
        DUE.is("ahead of a call that one has", Due.station(h, "A1", 0, 40, 0, 0), -1);
        DUE.is("ahead of twelve", Due.station(h, "B", 0, 0, 100, 0), -1);
        h = new ContactHouse();
        DUE.is("refused", Due.station(h, "A", 0, 0, 0, 100), -1);
        DUE.is("nobody has that call then", Due.station(h, "A"), 0);
    }

    private static void refusedCalls() {
        DUE.by("-2: the TAPE is no CALL;");
        ContactHouse h = new ContactHouse();
        DUE.is("an empty tape", h.station(0, 0, 0, 0), -2);
        h.feed(0x41424344, 0x45464748, 0, 0, 0);
        DUE.is("twenty bytes", h.station(0, 0, 0, 0), -2);
        DUE.is("there is none", h.count(0), 0);
        h = twelve();
        DUE.is("ahead of twelve", Due.station(h, "a"), -2);
    }

    private static void takenCalls() {
        DUE.by("-3: one has it;");
        ContactHouse h = twelve();
        DUE.is("the first one's, ahead of twelve", Due.station(h, "A0"), -3);
        DUE.is("the last one's, ahead of twelve", Due.station(h, "A11"), -3);
    }

    private static void twelveAreThere() {
        DUE.by("-4: there are 12.");
        ContactHouse h = twelve();
        DUE.is("a thirteenth", Due.station(h, "B"), -4);
        DUE.is("once more", Due.station(h, "B"), -4);
        DUE.is("there are 12", h.count(0), 12);
        Due.log(h, 0, 0, "q 1 B");
        DUE.ask(h, "nobody has its call", h.points(0, 0, 0), 0, 0);
    }

    private static void emptyInAnyCase() {
        DUE.by("(The TAPE is empty then in any case.)");
        ContactHouse h = new ContactHouse();
        tapeBehind(h, "A", 0, 0);
        tapeBehind(h, "B", 5, -1);
        tapeBehind(h, "B ", 0, -2);
        tapeBehind(h, "B".repeat(1000), 0, -2);
        tapeBehind(h, "A", 0, -3);
        tapeBehind(twelve(), "B", 0, -4);
    }

    private static void tapeBehind(ContactHouse h, String call, int kind, int answer) {
        DUE.is("a station", Due.station(h, call, kind, 0, 0, 0), answer);
        DUE.is("bytes of the tape behind " + answer, h.count(1), 0);
        DUE.is("nothing is left of it", h.end(1), -1);
    }

    /** Teams 0 and 1; PORTABLES from 2 on, which have 50 each without a contact. */
    private static ContactHouse teams() {
        ContactHouse h = new ContactHouse();
        for (int n = 0; n < 12; n++) {
            Due.station(h, "A" + n, n < 2 ? TEAM : PORTABLE, 0, 0, 0);
        }
        return h;
    }

    private static void joining() {
        DUE.by("A station joins a TEAM. Answers how many have.");
        ContactHouse h = teams();
        for (int s = 2; s < 11; s++) {
            DUE.is("join(0, " + s + ")", h.join(0, s), s - 1);
        }
        DUE.is("another team's first", h.join(1, 11), 1);
        DUE.ask(h, "nine have", h.total(0), 9 * 50, 0);
        DUE.ask(h, "one has", h.total(1), 50, 0);
        h = new ContactHouse();
        for (int kind = 0; kind <= 4; kind++) {
            Due.station(h, "K" + kind, kind, 0, 0, 0);
        }
        for (int kind = 0; kind <= 3; kind++) {
            DUE.is("one of kind " + kind, h.join(4, kind), kind + 1);
        }
    }

    private static void noneToJoin() {
        DUE.by("-1: there is none such, or no such TEAM;");
        ContactHouse h = new ContactHouse();
        DUE.is("nobody is there", h.join(0, 0), -1);
        for (int kind = 0; kind <= 4; kind++) {
            Due.station(h, "K" + kind, kind, 0, 0, 0);
        }
        for (int off : new int[] {-1, 5, 12, Integer.MIN_VALUE, Integer.MAX_VALUE}) {
            DUE.is("station " + off, h.join(4, off), -1);
            DUE.is("team " + off, h.join(off, 0), -1);
            DUE.is("team " + off + ", and a team joins", h.join(off, 4), -1);
        }
        for (int kind = 0; kind <= 3; kind++) {
            DUE.is("no team but of kind " + kind, h.join(kind, 0), -1);
            DUE.is("no team, and a team joins", h.join(kind, 4), -1);
        }
        DUE.is("none has joined", h.join(4, 0), 1);
        DUE.is("no team, and it has joined one", h.join(1, 0), -1);
        DUE.is("team -1, and it has joined one", h.join(-1, 0), -1);
    }

    private static void teamsDoNotJoin() {
        DUE.by("-2: it is a TEAM itself;");
        ContactHouse h = teams();
        DUE.is("another team", h.join(0, 1), -2);
        DUE.is("the same team", h.join(0, 0), -2);
        DUE.is("neither has joined", h.join(0, 2), 1);
        DUE.ask(h, "the total ends", h.total(0), 50, 0);
    }

    private static void joinedAlready() {
        DUE.by("-3: it has joined one already.");
        ContactHouse h = teams();
        h.join(0, 2);
        DUE.is("the same once more", h.join(0, 2), -3);
        DUE.is("another one", h.join(1, 2), -3);
        DUE.ask(h, "it counts once", h.total(0), 50, 0);
        DUE.ask(h, "it counts not there", h.total(1), 0, 0);
        DUE.is("the next one is the second", h.join(0, 3), 2);
        DUE.is("the other team's first", h.join(1, 4), 1);
    }

    public static void main(String[] args) {
        atMostTwelve();
        kinds();
        zones();
        squares();
        lengthsOfCalls();
        charactersOfCalls();
        sameCalls();
        bands();
        missingLogs();
        hasALog();
        teamsHaveNone();
        justAsItIs();
        refusedNumbers();
        refusedCalls();
        takenCalls();
        twelveAreThere();
        emptyInAnyCase();
        joining();
        noneToJoin();
        teamsDoNotJoin();
        joinedAlready();
        DUE.end();
    }
}
