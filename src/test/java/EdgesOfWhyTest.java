/** WHY of section 3 and promises 18 (why) and 19 (meant), a sentence at a time. */
public final class EdgesOfWhyTest {
    private static final Due DUE = new Due("EdgesOfWhyTest");

    private static ContactHouse house(String... calls) {
        ContactHouse h = Due.houseOf(calls);
        h.window(10);
        return h;
    }

    private static void why(ContactHouse h, String what, int s, int i, int why) {
        DUE.ask(h, what + ": line " + i + " of " + s, h.why(s, 0, i), why, 0);
    }

    private static void whys(ContactHouse h, String what, int s, int... whys) {
        for (int i = 0; i < whys.length; i++) {
            why(h, what, s, i, whys[i]);
        }
    }

    private static void dupes() {
        DUE.by("1 a DUPE: it is in a pair, and so is another contact of S on that band with the same station,");
        ContactHouse h = house("A1", "B1", "C1");
        Due.log(h, 0, 0, "q 100 B1 1 1", "q 100 C1 2 2", "q 200 B1 3 3", "q 300 B1 9 8", "q 50 B1 9 7");
        Due.log(h, 1, 0, "q 100 A1 1 1", "q 200 A1 3 3");
        Due.log(h, 2, 0, "q 100 A1 2 2");
        Due.log(h, 0, 1, "q 300 B1 4 4");
        Due.log(h, 1, 1, "q 300 A1 4 4");
        whys(h, "of A", 0, 0, 0, 1, 5, 5);
        whys(h, "of B", 1, 0, 1);
        DUE.ask(h, "on another band", h.why(0, 1, 0), 0, 0);
        DUE.ask(h, "on another band, of B", h.why(1, 1, 0), 0, 0);
        whys(h, "of C", 2, 0);
    }

    private static void earlierDupes() {
        DUE.by("whose MOMENT is less, or the same and its line less.");
        ContactHouse h = house("A1", "B1");
        Due.log(h, 0, 0, "q 101 B1 1 1", "q 100 B1 2 2", "q 100 B1 3 3", "q 102 B1 4 4");
        Due.log(h, 1, 0, "q 100 A1 4 4", "q 100 A1 3 3", "q 100 A1 2 2", "q 99 A1 1 1");
        whys(h, "of A", 0, 1, 0, 1, 1);
        whys(h, "of B", 1, 1, 1, 1, 0);
        Due.log(h, 0, 0, "q 100 B1 1 1", "q 100 B1 2 2", "q 100 B1 3 3", "q 100 B1 4 4");
        whys(h, "all the same", 0, 0, 1, 1, 1);
        Due.log(h, 0, 0, "q 9999999999 B1 1 1", "q 9999999998 B1 2 2", "q 5 B1 9 9", "q 6 B1 9 9", "q 7 B1 9 9");
        Due.log(h, 1, 0, "q 9999999999 A1 1 1", "q 9999999998 A1 2 2", "q 5 A1 9 9", "q 6 A1 9 9", "q 7 A1 9 9");
        whys(h, "far moments", 0, 1, 1, 0, 1, 1);
        Due.log(h, 0, 0, "q 4294967296 B1 1 1", "q 2147483648 B1 2 2", "q 9 B1 3 3");
        Due.log(h, 1, 0, "q 4294967296 A1 1 1", "q 2147483648 A1 2 2", "q 9 A1 3 3");
        whys(h, "moments beyond ints", 0, 1, 1, 0);
    }

    private static void inAPair() {
        DUE.by("0 it is in a pair.");
        ContactHouse h = house("A1", "B1");
        Due.log(h, 0, 0, "q 100 B1 1 1", "q 100 B1 1 2");
        Due.log(h, 1, 0, "q 110 A1 1 1");
        whys(h, "of A", 0, 0, 5);
        whys(h, "of B", 1, 0);
        DUE.is("no station is meant", h.meant(0, 0, 0), -1);
    }

    private static void shortOnes() {
        DUE.by("2 SHORT: it lacks SENT or GOT.");
        ContactHouse h = house("A1", "B1", "C1");
        Due.log(h, 0, 0, "q 1 B1", "q 1 B1 1", "q 1 B2", "q 1 B2 1", "q 1 A1 1", "q 1 C1 1", "q 1 Z", "q 1 Z 0", "q 1 Z 0 0");
        Due.log(h, 1, 0, "q 1 A1 1 1", "q 1 A1 1", "q 1 A1");
        whys(h, "of A", 0, 2, 2, 2, 2, 2, 2, 2, 2, 4);
        whys(h, "of B", 1, 5, 2, 2);
    }

    /** Whether a contact "q 100 CALL 1 2" of A1 is misheard by what B1 logged; CCC has no log. */
    private static void misheard(String call, String line, boolean is) {
        ContactHouse h = house("A1", "B1", "CCC");
        Due.log(h, 0, 0, "q 100 " + call + " 1 2");
        Due.log(h, 1, 0, line);
        why(h, call + " by '" + line + "'", 0, 0, is ? 3 : 4);
        DUE.ask(h, call + " by '" + line + "', meant", h.meant(0, 0, 0), is ? 1 : -1, 0);
    }

    private static void noStationsCall() {
        DUE.by("3 MISHEARD: its CALL is no station's,");
        ContactHouse h = house("A1", "B1", "B2");
        Due.log(h, 0, 0, "q 100 B2 1 2", "q 100 B3 1 2");
        Due.log(h, 1, 0, "q 100 A1 2 1");
        whys(h, "a station's without a log, and no station's", 0, 6, 3);
        DUE.ask(h, "nobody is meant by a station's", h.meant(0, 0, 0), -1, 0);
        Due.log(h, 2, 1, "");
        whys(h, "a station's with a log, and no station's", 0, 5, 3);
        DUE.ask(h, "nobody is meant by a station's", h.meant(0, 0, 0), -1, 0);
        Due.station(h, "B3", 4, 0, 0, 0);
        whys(h, "a team's", 0, 5, 6);
        h = house("A1", "B1");
        Due.log(h, 0, 0, "q 100 A1 1 2");
        Due.log(h, 1, 0, "q 100 A1 2 1");
        whys(h, "its own", 0, 6);
    }

    private static void byOneCharacter() {
        DUE.by("and it is one of the CALLS that differ from it by one character (as long as it, just one place is another)");
        for (String call : new String[] {"B0", "B9", "BA", "BZ", "01", "Z1", "C1"}) {
            misheard(call, "q 100 A1 2 1", true);
        }
        for (String call : new String[] {"B", "1", "B11", "1B1", "BB1", "B10", "0B1", "1B", "C2", "B1B1", "0000B1"}) {
            misheard(call, "q 100 A1 2 1", false);
        }
        String six = "ABCDEF";
        for (int place = 0; place < 6; place++) {
            String one = six.substring(0, place) + "0" + six.substring(place + 1);
            String two = place == 0 ? "00CDEF" : "0" + one.substring(1);
            ContactHouse h = house("Z", six);
            Due.log(h, 0, 0, "q 100 " + one + " 1 2", "q 100 " + two + " 1 2");
            Due.log(h, 1, 0, "q 100 Z 2 1");
            whys(h, "place " + place, 0, 3, 4);
        }
        ContactHouse h = house("Z", "A");
        Due.log(h, 0, 0, "q 100 9 1 2", "q 100 AA 1 2");
        Due.log(h, 1, 0, "q 100 Z 2 1");
        whys(h, "the only character", 0, 3, 4);
    }

    private static void withALog() {
        DUE.by("of a station T with a log (not S) that has a contact d on that band");
        for (int band = 0; band < 3; band++) {
            ContactHouse h = house("A1", "B1");
            Due.log(h, 0, 0, "q 100 B2 1 2");
            why(h, "without a log", 0, 0, 4);
            Due.log(h, 1, band, "q 100 A1 2 1");
            why(h, "on band " + band, 0, 0, band == 0 ? 3 : 4);
        }
        ContactHouse h = house("A1", "B1");
        Due.log(h, 0, 0, "q 100 A2 1 1", "q 100 A1 1 1");
        whys(h, "by the station's own log", 0, 4, 6);
        h = house("A1", "B1");
        Due.log(h, 0, 0, "q 100 B2 1 2");
        Due.log(h, 1, 0, "r 100 100", "x q 100 A1 2 1");
        whys(h, "by no contact", 0, 4);
    }

    private static void inNoPair() {
        DUE.by("that is in no pair,");
        ContactHouse h = house("A1", "B1");
        Due.log(h, 0, 0, "q 100 B2 1 2", "q 100 B1 1 2");
        Due.log(h, 1, 0, "q 100 A1 2 1");
        whys(h, "it is in one", 0, 4, 0);
        Due.log(h, 1, 0, "q 100 A1 2 1", "q 109 A1 2 1");
        whys(h, "another is in none", 0, 3, 0);
        Due.log(h, 0, 0, "q 100 B2 1 2", "q 100 B3 1 2");
        Due.log(h, 1, 0, "q 100 A1 2 1");
        whys(h, "both go by one that is in none", 0, 3, 3);
        whys(h, "which is not logged", 1, 5);
    }

    private static void whoseCallIsMine() {
        DUE.by("whose CALL is S's,");
        misheard("B2", "q 100 A1 2 1", true);
        for (String call : new String[] {"A2", "B1", "B2", "A", "A11", "CCC"}) {
            misheard("B2", "q 100 " + call + " 2 1", false);
        }
    }

    private static void numbersOfMisheard() {
        DUE.by("that has SENT and GOT,");
        misheard("B2", "q 100 A1 2", false);
        misheard("B2", "q 100 A1", false);
        misheard("B2", "q 100 A1 1 2", false);
        misheard("B2", "q 100 A1 2 2", false);
        misheard("B2", "q 100 A1 1 1", false);
    }

    private static void wouldAgree() {
        DUE.by("and that would AGREE with c by the OFFSETS if the CALL of c were T's;");
        for (int moment = 85; moment <= 115; moment++) {
            ContactHouse h = house("A1", "B1");
            Due.log(h, 0, 0, "q 100 B2 1 2", "q 500 B1 7 7", "q 500 B1 8 8");
            Due.log(h, 1, 0, "q " + moment + " A1 2 1", "q 500 A1 7 7", "q 500 A1 8 8");
            why(h, "at " + moment, 0, 0, moment >= 90 && moment <= 110 ? 3 : 4);
        }
        for (int moment = 175; moment <= 215; moment++) {
            ContactHouse h = house("A1", "B1", "C1");
            // A1's clock is 90 to 110 behind C1's, by which B1's goes.
            Due.log(h, 0, 0, "q 100 B2 1 2", "q 100 C1 3 3", "q 100 C1 4 4");
            Due.log(h, 1, 0, "q " + moment + " A1 2 1", "q 1 C1 5 5", "q 1 C1 6 6");
            Due.log(h, 2, 0, "q 200 A1 3 3", "q 200 A1 4 4", "q 1 B1 5 5", "q 1 B1 6 6", "q 1 B1 8 9");
            DUE.is("the clock of A1", h.offset(0), 90);
            DUE.is("the clock of B1", h.offset(1), 0);
            why(h, "put right, at " + moment, 0, 0, moment >= 180 && moment <= 200 ? 3 : 4);
        }
    }

    private static void theEarliest() {
        DUE.by("of several such T the one with the earliest such d (its MOMENT, put right),");
        ContactHouse h = house("B1", "A1", "B2");
        Due.log(h, 1, 0, "q 100 B9 1 2");
        Due.log(h, 0, 0, "q 101 A1 2 1");
        Due.log(h, 2, 0, "q 100 A1 2 1");
        DUE.ask(h, "by one second", h.meant(1, 0, 0), 2, 0);
        Due.log(h, 0, 0, "q 101 A1 2 1", "q 99 A1 2 1");
        DUE.ask(h, "its second one", h.meant(1, 0, 0), 0, 0);
        Due.log(h, 0, 0, "q 101 A1 2 1", "q 89 A1 2 1", "q 95 A1 2 2", "q 95 A1 2");
        DUE.ask(h, "only those that would agree", h.meant(1, 0, 0), 2, 0);
        Due.log(h, 1, 0, "q 100 B9 1 2", "q 95 B1 1 2");
        Due.log(h, 0, 0, "q 105 A1 2 1", "q 95 A1 2 1");
        DUE.ask(h, "only those in no pair", h.meant(1, 0, 0), 2, 0);
        Due.log(h, 1, 0, "q 9999999999 B9 1 2");
        Due.log(h, 0, 0, "q 9999999999 A1 2 1");
        Due.log(h, 2, 0, "q 9999999998 A1 2 1");
        DUE.ask(h, "far moments", h.meant(1, 0, 0), 2, 0);
    }

    /** B1's clock is 50 ahead of C1's, by which B2's goes: its 150 is 100, which ties with B2's, its 149 is earlier. */
    private static void theEarliestPutRight() {
        DUE.by("of several such T the one with the earliest such d (its MOMENT, put right),");
        int[] moments = {149, 150, 151};
        int[] meant = {3, 2, 2};
        for (int n = 0; n < moments.length; n++) {
            ContactHouse h = house("A1", "C1", "B2", "B1");
            Due.log(h, 0, 0, "q 100 B9 1 2");
            Due.log(h, 1, 0, "q 500 B1 7 7", "q 500 B1 8 8", "q 500 B2 3 3", "q 500 B2 4 4");
            Due.log(h, 2, 0, "q 500 C1 3 3", "q 500 C1 4 4", "q 100 A1 2 1");
            Due.log(h, 3, 0, "q 560 C1 7 7", "q 560 C1 8 8", "q " + moments[n] + " A1 2 1");
            DUE.is("the clock of B1", h.offset(3), -50);
            DUE.is("the clock of B2", h.offset(2), 0);
            DUE.ask(h, "B1's at " + moments[n], h.meant(0, 0, 0), meant[n], 0);
        }
    }

    private static void theLeast() {
        DUE.by("of these the least T is MEANT.");
        ContactHouse h = house("B1", "B2", "A1", "B3");
        Due.log(h, 2, 0, "q 100 B9 1 2");
        Due.log(h, 0, 0, "q 103 A1 2 1");
        Due.log(h, 1, 0, "q 102 A1 2 1");
        Due.log(h, 3, 0, "q 102 A1 2 1");
        DUE.ask(h, "of three, two earlier ones", h.meant(2, 0, 0), 1, 0);
        Due.log(h, 0, 0, "q 102 A1 2 1");
        DUE.ask(h, "of three", h.meant(2, 0, 0), 0, 0);
        Due.log(h, 0, 0, "x");
        Due.log(h, 1, 0, "x");
        DUE.ask(h, "of one", h.meant(2, 0, 0), 3, 0);
    }

    private static void unique() {
        DUE.by("4 UNIQUE: its CALL is no station's, and stands in the logs of fewer than 3 stations.");
        ContactHouse h = house("A1", "B1", "C1", "D1");
        Due.log(h, 0, 0, "q 1 WWW 1 1", "q 2 WWW 2 2", "q 3 WWW 3 3");
        whys(h, "of one, three times", 0, 4, 4, 4);
        Due.log(h, 1, 0, "q 1 WWW 1 1");
        whys(h, "of two", 0, 4);
        Due.log(h, 1, 1, "q 1 WWW 1 1");
        Due.log(h, 1, 2, "q 1 WWW 1 1");
        whys(h, "of two, on three bands", 0, 4);
        Due.log(h, 2, 2, "x WWW", "r 1 2", "q 1 WWWW 1 1", "q 1 WW 1 1");
        whys(h, "of two, and a remark", 0, 4);
        Due.log(h, 2, 2, "q 1 WWW");
        whys(h, "of three, one of them short", 0, 6, 6, 6);
        whys(h, "of three, for another", 1, 6);
        Due.log(h, 3, 1, "q 1 WWW 1 1");
        whys(h, "of four", 0, 6);
        Due.log(h, 2, 2, "x");
        Due.log(h, 3, 1, "x");
        whys(h, "of two again", 0, 4);
        Due.log(h, 3, 1, "x\n".repeat(15) + "q 1 WWW 1 1");
        whys(h, "of three, in a last line", 0, 6);
        for (int n = 0; n < 3; n++) {
            Due.log(h, 3, 1, "x\nq 1 WWW 1 1\n" + "x\n".repeat(14));
        }
        whys(h, "of three, in a full log", 0, 6);
        for (int n = 0; n < 3; n++) {
            Due.log(h, 3, 1, "x");
            whys(h, "nothing is left of logs that were there", 0, 4);
        }
        Due.log(h, 3, 1, "x\n".repeat(16));
        whys(h, "of two, and a full log without it", 0, 4);
        Due.station(h, "WWW");
        Due.log(h, 3, 1, "x");
        whys(h, "of two, and a station's", 0, 6);
    }

    private static void notLogged() {
        DUE.by("5 NOT LOGGED: its CALL is that of another station with a log.");
        ContactHouse h = house("A1", "B1", "C1");
        Due.station(h, "T1", 4, 0, 0, 0);
        Due.log(h, 0, 0, "q 1 B1 1 1", "q 1 C1 1 1", "q 1 A1 1 1", "q 1 T1 1 1");
        whys(h, "none has a log", 0, 6, 6, 6, 6);
        Due.log(h, 1, 0, "");
        whys(h, "an empty one", 0, 5, 6, 6, 6);
        Due.log(h, 2, 2, "x");
        whys(h, "one of another band", 0, 5, 5, 6, 6);
    }

    private static void others() {
        DUE.by("6 else.");
        ContactHouse h = house("A1", "B1", "C1");
        Due.log(h, 0, 0, "q 1 C1 1 1", "q 1 A1 1 1", "q 1 WWW 1 1");
        Due.log(h, 1, 0, "q 1 WWW 2 2");
        whys(h, "a station without a log, itself", 0, 6, 6, 4);
        Due.log(h, 2, 0, "q 1 WWW 3 3");
        whys(h, "that has one, itself, a call of three logs", 0, 5, 6, 6);
    }

    private static void theFirstThatHolds() {
        DUE.by("WHY of a contact c of S, the first that holds:");
        ContactHouse h = house("A1", "B1");
        Due.log(h, 0, 0, "q 100 B1 1 1", "q 100 B1 2 2", "q 100 B2 3", "q 100 B2 4 4", "q 100 B1 5 6");
        Due.log(h, 1, 0, "q 100 A1 1 1", "q 100 A1 2 2", "q 100 A1 4 4");
        whys(h, "in a pair; a dupe ahead of it; short ahead of unique; misheard ahead of unique; not logged", 0, 0, 1, 2, 3, 5);
        h = house("A1", "B1", "C1", "D1");
        Due.log(h, 0, 0, "q 100 B2 4 4");
        Due.log(h, 1, 0, "q 100 A1 4 4");
        Due.log(h, 2, 0, "q 1 B2");
        Due.log(h, 3, 0, "q 1 B2");
        whys(h, "misheard, though in three logs", 0, 3);
    }

    private static void meantOfOthers() {
        DUE.by("the station that is MEANT by a MISHEARD contact; -1 for others.");
        ContactHouse h = house("B1", "A1");
        Due.log(h, 1, 0, "q 100 B2 1 2", "q 100 B2 1", "q 100 B1 3 3", "q 100 B1 4 4", "q 100 WWW 5 5", "q 100 B1 6 7", "q 1 A1 1 2");
        Due.log(h, 0, 0, "q 100 A1 2 1", "q 100 A1 3 3", "q 100 A1 4 4");
        int[] whys = {3, 2, 0, 1, 4, 5, 6};
        for (int i = 0; i < whys.length; i++) {
            DUE.ask(h, "why of line " + i, h.why(1, 0, i), whys[i], 0);
            DUE.ask(h, "meant of line " + i, h.meant(1, 0, i), i == 0 ? 0 : -1, 0);
        }
    }

    public static void main(String[] args) {
        dupes();
        earlierDupes();
        inAPair();
        shortOnes();
        noStationsCall();
        byOneCharacter();
        withALog();
        inNoPair();
        whoseCallIsMine();
        numbersOfMisheard();
        wouldAgree();
        theEarliest();
        theEarliestPutRight();
        theLeast();
        unique();
        notLogged();
        others();
        theFirstThatHolds();
        meantOfOthers();
        DUE.end();
    }
}
