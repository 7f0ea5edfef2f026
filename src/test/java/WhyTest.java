/** Promises 18 (why) and 19 (meant). */
public final class WhyTest {
    private static final Due DUE = new Due("WhyTest");

    private static ContactHouse house(String... calls) {
        ContactHouse h = new ContactHouse();
        for (String call : calls) {
            Due.station(h, call);
        }
        h.window(10);
        return h;
    }

    private static void why(ContactHouse h, String what, int s, int i, int why, int meant) {
        DUE.ask(h, what + ": why(" + s + ", 0, " + i + ")", h.why(s, 0, i), why, 0);
        DUE.ask(h, what + ": meant(" + s + ", 0, " + i + ")", h.meant(s, 0, i), meant, 0);
    }

    private static void dupes() {
        ContactHouse h = house("A1", "B1", "C1");
        Due.log(h, 0, 0, "q 200 B1 1 1", "q 200 B1 2 2", "q 100 B1 3 3", "q 300 C1 4 4", "q 50 B1 9 9");
        Due.log(h, 1, 0, "q 200 A1 1 1", "q 200 A1 2 2", "q 100 A1 3 3");
        Due.log(h, 2, 0, "q 300 A1 4 4");
        Due.log(h, 0, 1, "q 400 B1 5 5");
        Due.log(h, 1, 1, "q 400 A1 5 5");
        why(h, "the earliest moment", 0, 2, 0, -1);
        why(h, "a later moment", 0, 0, 1, -1);
        why(h, "a later moment, a later line", 0, 1, 1, -1);
        why(h, "another station", 0, 3, 0, -1);
        why(h, "in no pair", 0, 4, 5, -1);
        DUE.is("another band", h.why(0, 1, 0), 0);
        why(h, "the other's earliest", 1, 2, 0, -1);
        why(h, "the other's later one", 1, 0, 1, -1);
        Due.log(h, 0, 0, "q 300 C1 4 4", "q 50 B1", "q 100 B1 3 3", "q 200 B1 1 1");
        why(h, "behind other contacts", 0, 2, 0, -1);
        why(h, "behind other contacts, later", 0, 3, 1, -1);
    }

    private static void sameMoment() {
        ContactHouse h = house("A1", "B1");
        Due.log(h, 0, 0, "q 200 B1 1 1", "q 200 B1 2 2");
        Due.log(h, 1, 0, "q 200 A1 2 2", "q 201 A1 1 1");
        why(h, "the same moment, the lesser line", 0, 0, 0, -1);
        why(h, "the same moment, the greater line", 0, 1, 1, -1);
        why(h, "the lesser moment", 1, 0, 0, -1);
        why(h, "the greater moment", 1, 1, 1, -1);
    }

    private static void shortOnes() {
        ContactHouse h = house("A1", "B1");
        Due.log(h, 0, 0, "q 1 B1", "q 1 B1 1", "q 1 B2 1", "q 1 A1", "q 1 Z 1");
        Due.log(h, 1, 0, "q 1 A1 1 1");
        for (int i = 0; i < 5; i++) {
            why(h, "short", 0, i, 2, -1);
        }
    }

    /** Whether a contact of A1 with the call at 100, 1 sent and 2 got, is misheard by a log of B1. */
    private static void misheard(String call, String line, boolean is) {
        ContactHouse h = house("A1", "B1", "B3");
        Due.log(h, 0, 0, "q 100 " + call + " 1 2");
        Due.log(h, 1, 0, line);
        why(h, call + " by " + line, 0, 0, is ? 3 : 4, is ? 1 : -1);
    }

    private static void misheardForms() {
        misheard("B2", "q 100 A1 2 1", true);
        misheard("C1", "q 100 A1 2 1", true);
        misheard("C2", "q 100 A1 2 1", false);
        misheard("B", "q 100 A1 2 1", false);
        misheard("1", "q 100 A1 2 1", false);
        misheard("B11", "q 100 A1 2 1", false);
        misheard("BB1", "q 100 A1 2 1", false);
        misheard("B2", "q 100 A1 1 2", false);
        misheard("B2", "q 100 A1 2 3", false);
        misheard("B2", "q 100 A1 2", false);
        misheard("B2", "q 100 A1", false);
        misheard("B2", "q 100 A2 2 1", false);
        misheard("B2", "q 100 B1 2 1", false);
        misheard("B2", "r 100 100", false);
    }

    private static void misheardMoments() {
        for (int moment = 89; moment <= 111; moment++) {
            ContactHouse h = house("A1", "B1");
            // The pairs keep both clocks as they are.
            Due.log(h, 0, 0, "q 100 B2 1 2", "q 500 B1 7 7", "q 500 B1 7 7");
            Due.log(h, 1, 0, "q " + moment + " A1 2 1", "q 500 A1 7 7", "q 500 A1 7 7");
            boolean is = moment >= 90 && moment <= 110;
            why(h, "at " + moment, 0, 0, is ? 3 : 4, is ? 1 : -1);
        }
    }

    private static void misheardNot() {
        ContactHouse h = house("A1", "B1", "B2");
        Due.log(h, 0, 0, "q 100 B2 1 2", "q 100 A2 1 2");
        Due.log(h, 1, 0, "q 100 A1 2 1");
        why(h, "its call is a station's", 0, 0, 6, -1);
        h = house("A1", "B1");
        Due.log(h, 0, 0, "q 100 B2 1 2", "q 100 B1 1 2", "q 100 B3 1 2");
        Due.log(h, 1, 0, "q 100 A1 2 1");
        why(h, "what it could be is in a pair", 0, 0, 4, -1);
        why(h, "that pair", 0, 1, 0, -1);
        h = house("A1", "B1");
        Due.log(h, 0, 0, "q 100 B2 1 2", "q 100 B3 1 2");
        Due.log(h, 1, 1, "q 100 A1 2 1");
        why(h, "what it could be is on another band", 0, 0, 4, -1);
        Due.log(h, 1, 0, "q 100 A1 2 1");
        why(h, "one contact for two", 0, 0, 3, 1);
        why(h, "one contact for two", 0, 1, 3, 1);
        why(h, "what was misheard", 1, 0, 5, -1);
        Due.station(h, "B2");
        why(h, "its call is a new station's", 0, 0, 6, -1);
        h = house("A1");
        Due.log(h, 0, 0, "q 100 A2 1 1", "q 100 A1 1 1");
        why(h, "it is the station itself", 0, 0, 4, -1);
    }

    /** Each ask works by what is there now, whether another one was asked ahead of it or not. */
    private static void meantAlone() {
        ContactHouse h = house("A1", "B1");
        Due.log(h, 0, 0, "q 100 B2 1 2");
        Due.log(h, 1, 0, "q 100 A1 2 1");
        DUE.is("meant alone", h.meant(0, 0, 0), 1);
        Due.log(h, 1, 0, "q 100 A1 2 2");
        DUE.is("meant alone, of another log", h.meant(0, 0, 0), -1);
    }

    private static void meantOfSeveral() {
        ContactHouse h = house("B1", "B2", "A1", "B3");
        Due.log(h, 2, 0, "q 100 B9 1 2");
        Due.log(h, 0, 0, "q 105 A1 2 1", "x", "q 103 A1 2 1");
        Due.log(h, 1, 0, "q 102 A1 2 1", "q 104 A1 2 1");
        Due.log(h, 3, 0, "q 102 A1 2 1");
        why(h, "the earliest, the least", 2, 0, 3, 1);
        Due.log(h, 1, 0, "q 103 A1 2 1", "q 104 A1 2 1");
        why(h, "the earliest", 2, 0, 3, 3);
        Due.log(h, 3, 0, "x");
        why(h, "the least of the same moment", 2, 0, 3, 0);
    }

    /** B1's clock is 60 ahead, so its contact, put right, is the earlier one though it logged it later. */
    private static void meantPutRight() {
        ContactHouse h = house("A1", "C1", "B1", "B2");
        Due.log(h, 0, 0, "q 100 B9 1 2");
        Due.log(h, 1, 0, "q 500 B1 7 7", "q 500 B1 8 8", "q 100 B2 3 3", "q 500 B2 4 4");
        Due.log(h, 2, 0, "q 560 C1 7 7", "q 560 C1 8 8", "q 148 A1 2 1");
        Due.log(h, 3, 0, "q 100 C1 3 3", "q 500 C1 4 4", "q 99 A1 2 1");
        DUE.is("offset of B1", h.offset(2), -50);
        DUE.is("offset of B2", h.offset(3), 0);
        why(h, "the earliest, put right", 0, 0, 3, 2);
        Due.log(h, 2, 0, "q 560 C1 7 7", "q 560 C1 8 8", "q 150 A1 2 1");
        why(h, "the other is earlier now", 0, 0, 3, 3);
    }

    private static void uniqueAndElse() {
        ContactHouse h = house("A1", "B1", "C1", "D1", "T1");
        Due.log(h, 0, 0, "q 1 W 1 1", "q 2 W 2 2", "q 3 W 3 3");
        why(h, "one station, three times", 0, 0, 4, -1);
        Due.log(h, 1, 2, "q 1 W");
        why(h, "two stations", 0, 0, 4, -1);
        Due.log(h, 2, 1, "x W");
        why(h, "a remark does not count", 0, 0, 4, -1);
        Due.log(h, 2, 1, "q 9 W");
        why(h, "three stations, on any band", 0, 0, 6, -1);
        Due.log(h, 2, 1, "x");
        Due.log(h, 2, 1, "x");
        why(h, "two stations again", 0, 0, 4, -1);
        Due.log(h, 2, 1, ("q 9 V\n".repeat(15) + "q 9 W").split("\n"));
        why(h, "three stations, one in its last line", 0, 0, 6, -1);
        Due.log(h, 0, 0, "q 1 B1 1 1", "q 1 A1 1 1", "q 1 D1 1 1", "q 1 T1 1 1");
        why(h, "another station with a log", 0, 0, 5, -1);
        why(h, "its own call", 0, 1, 6, -1);
        why(h, "a station without a log", 0, 2, 6, -1);
        Due.log(h, 3, 2, "");
        why(h, "it has an empty log now", 0, 2, 5, -1);
    }

    private static void theWindowNow() {
        ContactHouse h = house("A1", "B1");
        h.window(60);
        Due.log(h, 0, 0, "q 100 B2 1 2", "q 300 B1 3 4", "q 500 B1 5 6");
        Due.log(h, 1, 0, "q 150 A1 2 1", "q 300 A1 4 3", "q 500 A1 6 5");
        why(h, "a window of 60", 0, 0, 3, 1);
        h.window(49);
        why(h, "a window of 49", 0, 0, 4, -1);
        h.window(50);
        why(h, "a window of 50", 0, 0, 3, 1);
    }

    public static void main(String[] args) {
        dupes();
        sameMoment();
        shortOnes();
        misheardForms();
        misheardMoments();
        misheardNot();
        meantAlone();
        meantOfSeveral();
        meantPutRight();
        uniqueAndElse();
        theWindowNow();
        DUE.end();
    }
}
