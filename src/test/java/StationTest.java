/** Promises 4 (station) and 5 (join). */
public final class StationTest {
    private static final Due DUE = new Due("StationTest");

    private static void numbers() {
        ContactHouse h = new ContactHouse();
        int[][] off = {{-1, 0, 0, 0}, {5, 0, 0, 0}, {0, -1, 0, 0}, {0, 40, 0, 0}, {0, 0, -1, 0}, {0, 0, 100, 0}, {0, 0, 0, -1}, {0, 0, 0, 100}};
        for (int[] n : off) {
            DUE.is("a number that is off", Due.station(h, "A", n[0], n[1], n[2], n[3]), -1);
            DUE.is("the tape is empty then", h.count(1), 0);
        }
        DUE.is("there is none", h.count(0), 0);
        DUE.is("the least", Due.station(h, "A", 0, 0, 0, 0), 0);
        DUE.is("the greatest", Due.station(h, "B", 4, 39, 99, 99), 1);
        DUE.is("there are two", h.count(0), 2);
    }

    private static void calls() {
        ContactHouse h = new ContactHouse();
        for (String call : new String[] {"", "ABCDEFG", "a", "A B", " A", "A ", "A\n", "/", ":", "@", "[", "\u00c4", "A\0"}) {
            DUE.is("no call", Due.station(h, call), -2);
            DUE.is("the tape is empty then", h.count(1), 0);
        }
        DUE.is("a number goes ahead of the call", Due.station(h, "", 9, 0, 0, 0), -1);
        String[] calls = {"0", "9", "A", "Z", "ABCDEF", "012345", "AB", "BA"};
        for (int n = 0; n < calls.length; n++) {
            DUE.is(calls[n], Due.station(h, calls[n]), n);
            DUE.is("the tape is empty then", h.count(1), 0);
        }
        DUE.is("one has it", Due.station(h, "AB"), -3);
        DUE.is("the tape is empty then", h.count(1), 0);
        DUE.is("a call is read once", h.station(0, 0, 0, 0), -2);
    }

    private static void twelve() {
        ContactHouse h = new ContactHouse();
        for (int n = 0; n < 12; n++) {
            DUE.is("station " + n, Due.station(h, "A" + n), n);
        }
        DUE.is("a thirteenth", Due.station(h, "B"), -4);
        DUE.is("the tape is empty then", h.count(1), 0);
        DUE.is("one has it, and there are 12", Due.station(h, "A3"), -3);
        DUE.is("no call, and there are 12", Due.station(h, "b"), -2);
        DUE.is("there are 12", h.count(0), 12);
    }

    private static void joining() {
        ContactHouse h = new ContactHouse();
        Due.station(h, "A", 0, 0, 0, 0);
        Due.station(h, "B", 1, 0, 0, 0);
        Due.station(h, "C", 3, 0, 0, 0);
        Due.station(h, "T", 4, 0, 0, 0);
        Due.station(h, "U", 4, 0, 0, 0);
        DUE.is("join(3, 0)", h.join(3, 0), 1);
        DUE.is("join(3, 2): a CHECK", h.join(3, 2), 2);
        DUE.is("join(4, 1): another team", h.join(4, 1), 1);
        DUE.is("join(4, 0): joined another", h.join(4, 0), -3);
        DUE.is("join(3, 0): joined it", h.join(3, 0), -3);
        DUE.is("join(3, 4): a team", h.join(3, 4), -2);
        DUE.is("join(3, 3): itself", h.join(3, 3), -2);
        DUE.is("join(1, 0): no team", h.join(1, 0), -1);
        DUE.is("join(1, 3): no team, and a team", h.join(1, 3), -1);
        DUE.is("join(5, 0)", h.join(5, 0), -1);
        DUE.is("join(-1, 0)", h.join(-1, 0), -1);
        DUE.is("join(3, 5)", h.join(3, 5), -1);
        DUE.is("join(3, -1)", h.join(3, -1), -1);
    }

    public static void main(String[] args) {
        numbers();
        calls();
        twelve();
        joining();
        DUE.end();
    }
}
