import java.util.function.IntSupplier;
import java.util.function.LongSupplier;

/** Section 4 and promises 26 (finding) and 27 (count), a sentence at a time. */
public final class EdgesOfAsksTest {
    private static final Due DUE = new Due("EdgesOfAsksTest");
    private static final int TEAM = 2;
    private static final int ALONE = 3;

    /** A1 and B1 with a pair on band 0, a team that A1 joined, and D1 without a log; an edition. */
    private static ContactHouse house() {
        ContactHouse h = Due.houseOf("A1", "B1");
        Due.station(h, "T1", 4, 0, 0, 0);
        Due.station(h, "D1");
        h.join(TEAM, 0);
        Due.log(h, 0, 0, "q 100 B1 1 1", "r 1 2", "x", "q 101 Z");
        Due.log(h, 1, 0, "q 100 A1 1 1");
        h.publish();
        return h;
    }

    private static LongSupplier[] asksOf(ContactHouse h, int s) {
        return new LongSupplier[] {
            () -> h.lines(s, 0), () -> h.entry(s, 0, 0), () -> h.moment(s, 0, 0, 0), () -> h.character(s, 0, 0, 0),
            () -> h.number(s, 0, 0, 0), () -> h.offset(s), () -> h.pair(s, 0, 0), () -> h.why(s, 0, 0), () -> h.meant(s, 0, 0),
            () -> h.points(s, 0, 0), () -> h.total(s), () -> h.rate(s), () -> h.place(s), () -> h.known(1, s)};
    }

    /** Every call that is no ask, and leaves what is counted of asks as it is. */
    private static IntSupplier[] othersOf(ContactHouse h) {
        return new IntSupplier[] {
            () -> h.feed(0, 0, 0, 0, 0), () -> h.end(-1), () -> h.end(0), () -> h.station(9, 0, 0, 0), () -> h.join(0, 0),
            () -> h.log(9, 9), () -> h.log(TEAM, 0), () -> h.wrong(-1), () -> h.rule(), () -> h.window(-1), () -> h.penalty(-1),
            () -> h.publish(), () -> h.finding(), () -> h.count(-1), () -> h.count(5), () -> h.log(ALONE, 0)};
    }

    /** What one ask adds to what is counted. */
    private static void adds(ContactHouse h, String what, LongSupplier ask, int opened, int finding) {
        int[] ahead = {h.count(3), h.count(4), h.count(5), h.count(6)};
        long answer = ask.getAsLong();
        DUE.is(what + ": its finding", h.finding(), finding);
        DUE.is(what + ": opened", h.count(3) - ahead[0], opened);
        DUE.is(what + ": closed", h.count(4) - ahead[1], opened);
        DUE.is(what + ": asks", h.count(5) - ahead[2], 1);
        DUE.is(what + ": asks with a finding", h.count(6) - ahead[3], finding == 0 ? 0 : 1);
        if (finding != 0) {
            DUE.is(what + ": its answer", answer, 0);
        }
    }

    private static void opensIfThereIsOne() {
        DUE.by("ASKS are the calls that are marked so. Each OPENS the log of the station it asks for, if there is such a station,");
        ContactHouse h = house();
        LongSupplier[] asks = asksOf(h, 0);
        for (int n = 0; n < asks.length; n++) {
            adds(h, "ask " + n, asks[n], 1, 0);
        }
        for (int off : new int[] {4, -1, 12, Integer.MIN_VALUE, Integer.MAX_VALUE}) {
            LongSupplier[] none = asksOf(h, off);
            for (int n = 0; n < none.length; n++) {
                adds(h, "ask " + n + " for station " + off, none[n], 0, 4);
            }
        }
    }

    private static void closesHowever() {
        DUE.by("and CLOSES it when it is over, however that is.");
        ContactHouse h = house();
        int[] findings = {1, 1, 1, 1, 1, 7, 1, 1, 1, 1, 0, 7, 0, 0};
        LongSupplier[] asks = asksOf(h, ALONE);
        for (int n = 0; n < asks.length; n++) {
            adds(h, "ask " + n + " for one without a log", asks[n], 1, findings[n]);
        }
        int[] ofATeam = {1, 1, 1, 1, 1, 7, 1, 1, 1, 1, 0, 7, 7, 0};
        asks = asksOf(h, TEAM);
        for (int n = 0; n < asks.length; n++) {
            adds(h, "ask " + n + " for a team", asks[n], 1, ofATeam[n]);
        }
        adds(h, "no band", () -> h.lines(0, 3), 1, 6);
        adds(h, "no line", () -> h.entry(0, 0, 4), 1, 2);
        adds(h, "no moment", () -> h.moment(0, 0, 0, 1), 1, 2);
        adds(h, "a remark", () -> h.moment(0, 0, 2, 0), 1, 3);
        adds(h, "no character", () -> h.character(0, 0, 0, 2), 1, 2);
        adds(h, "a rest", () -> h.character(0, 0, 1, 0), 1, 3);
        adds(h, "no number", () -> h.number(0, 0, 3, 0), 1, 2);
        adds(h, "no contact", () -> h.pair(0, 0, 1), 1, 3);
        adds(h, "no contact", () -> h.why(0, 0, 1), 1, 3);
        adds(h, "no contact", () -> h.meant(0, 0, 2), 1, 3);
        adds(h, "no edition", () -> h.known(2, 0), 1, 2);
        adds(h, "one moment", () -> h.rate(1), 1, 5);
        Due.rule(h, "/ 1 0");
        adds(h, "points divided by 0", () -> h.points(0, 0, 0), 1, 5);
        adds(h, "a total divided by 0", () -> h.total(0), 1, 5);
        adds(h, "a team's total divided by 0", () -> h.total(TEAM), 1, 5);
        adds(h, "a place goes by 0", () -> h.place(0), 1, 0);
    }

    private static void theFirstInItsOrder() {
        DUE.by("Each has a FINDING, 0, or the first of these that it names, in its order; then it answers 0.");
        ContactHouse h = house();
        Due.rule(h, "/ 1 0");
        adds(h, "station ahead of band", () -> h.lines(9, 9), 0, 4);
        adds(h, "band ahead of a missing log", () -> h.lines(ALONE, 9), 1, 6);
        adds(h, "a missing log ahead of the line", () -> h.entry(0, 1, 9), 1, 1);
        adds(h, "the line ahead of k", () -> h.moment(0, 0, 9, 9), 1, 2);
        adds(h, "a remark ahead of k", () -> h.moment(0, 0, 2, 9), 1, 3);
        adds(h, "no contact ahead of k", () -> h.character(0, 0, 1, 9), 1, 3);
        adds(h, "no contact ahead of k", () -> h.number(0, 0, 2, 9), 1, 3);
        adds(h, "the line ahead of no contact", () -> h.pair(0, 0, 9), 1, 2);
        adds(h, "no contact ahead of a division", () -> h.points(0, 0, 1), 1, 3);
        adds(h, "station ahead of edition", () -> h.known(9, 9), 0, 4);
        adds(h, "no log ahead of a division", () -> h.rate(ALONE), 1, 7);
        adds(h, "none", () -> h.lines(0, 0), 1, 0);
        DUE.is("none was had ahead of it", h.lines(0, 0), 4);
    }

    private static void notWorked() {
        DUE.by("FINDINGS: 1 not worked: the log of the band is MISSING (a TEAM's always is);");
        ContactHouse h = house();
        for (int band = 0; band < 3; band++) {
            DUE.ask(h, "band " + band, h.lines(0, band), band == 0 ? 4 : 0, band == 0 ? 0 : 1);
            DUE.ask(h, "band " + band + " of one without a log", h.lines(ALONE, band), 0, 1);
            Due.log(h, TEAM, band, "x");
            DUE.ask(h, "band " + band + " of a team", h.lines(TEAM, band), 0, 1);
        }
    }

    private static void beyond() {
        DUE.by("2 beyond: there is no such line, character, number (or it lacks);");
        ContactHouse h = house();
        DUE.ask(h, "line 3 of 4", h.entry(0, 0, 3), 0, 0);
        DUE.ask(h, "line 4 of 4", h.entry(0, 0, 4), 0, 2);
        DUE.ask(h, "character 1 of 2", h.character(0, 0, 0, 1), '1', 0);
        DUE.ask(h, "character 2 of 2", h.character(0, 0, 0, 2), 0, 2);
        DUE.ask(h, "number 1", h.number(0, 0, 0, 1), 1, 0);
        DUE.ask(h, "number 2", h.number(0, 0, 0, 2), 0, 2);
        DUE.ask(h, "it lacks", h.number(0, 0, 3, 1), 0, 2);
    }

    private static void otherFindings() {
        DUE.by("3 another entry; 4 no such station; 5 something is divided by 0; 6 no such band; 7 another kind of station.");
        ContactHouse h = house();
        DUE.ask(h, "another entry", h.why(0, 0, 1), 0, 3);
        DUE.ask(h, "no such station", h.why(4, 0, 1), 0, 4);
        DUE.ask(h, "something is divided by 0", h.rate(1), 0, 5);
        DUE.ask(h, "no such band", h.why(0, 3, 1), 0, 6);
        DUE.ask(h, "another kind of station", h.place(TEAM), 0, 7);
    }

    /** Only the contact on the band told divides by 0; A1's team and a team without it. */
    private static void aRuleThatDivides() {
        DUE.by("(A RULE that divides by 0 is FINDING 5 of an ask that works it,"
            + " contacts from the first line of band 0 on; of a TEAM's, too.)");
        for (int band = 0; band < 3; band++) {
            ContactHouse h = house();
            Due.station(h, "U1", 4, 0, 0, 0);
            h.join(4, 1);
            for (int n = 0; n < 3; n++) {
                Due.log(h, 0, n, "x", "q 100 B1 1 1");
                Due.log(h, 1, n, n == band ? "x" : "q 100 A1 1 1");
            }
            Due.rule(h, "/ 6 - band " + band);
            DUE.ask(h, "points on it", h.points(0, band, 1), 0, 5);
            int others = 6 / ((band + 1) % 3 - band) + 6 / ((band + 2) % 3 - band);
            DUE.ask(h, "no total works it: it is not logged", h.total(0), others * 2, 0);
            Due.log(h, 1, band, "x", "q 100 A1 1 1");
            DUE.ask(h, "a total works it", h.total(0), 0, 5);
            DUE.ask(h, "a team's", h.total(TEAM), 0, 5);
            DUE.ask(h, "the other team's", h.total(4), 0, 5);
            DUE.ask(h, "one without a contact does not", h.total(ALONE), 0, 0);
            DUE.ask(h, "nor does why", h.why(0, band, 1), 0, 0);
            DUE.ask(h, "nor does pair", h.pair(0, band, 1), 101, 0);
            DUE.ask(h, "nor does offset", h.offset(0), 0, 0);
            DUE.ask(h, "nor does known", h.known(1, 0), 1, 0);
        }
    }

    private static void latestAsk() {
        DUE.by("The FINDING of the latest ASK.");
        ContactHouse h = house();
        DUE.is("ahead of the first", h.finding(), 0);
        h.lines(0, 3);
        IntSupplier[] others = othersOf(h);
        for (int n = 0; n < others.length; n++) {
            others[n].getAsInt();
            DUE.is("behind other call " + n, h.finding(), 6);
        }
        h.place(TEAM);
        DUE.is("the latest", h.finding(), 7);
        h.place(0);
        DUE.is("one without a finding", h.finding(), 0);
        ContactHouse other = new ContactHouse();
        other.lines(0, 0);
        DUE.is("not another house's", h.finding(), 0);
    }

    private static void stationsBytesLines() {
        DUE.by("what = 0 stations; 1 bytes of the TAPE; 2 wrong lines of the latest call of log();");
        ContactHouse h = new ContactHouse();
        for (int n = 1; n <= 13; n++) {
            Due.station(h, "A" + n);
            DUE.is("stations", h.count(0), Math.min(n, 12));
        }
        for (int n = 1; n <= 51; n++) {
            h.feed(0, 0, 0, 0, 0);
            DUE.is("bytes", h.count(1), Math.min(20 * n, 1000));
        }
        h.end(7);
        DUE.is("bytes", h.count(1), 7);
        h.end(0);
        for (int n = 0; n <= 20; n++) {
            Due.log(h, 0, 0, "q\n".repeat(n) + "x");
            DUE.is("wrong lines", h.count(2), n);
        }
        Due.log(h, 0, 3, "q");
        DUE.is("wrong lines of a refused one", h.count(2), 0);
    }

    private static void asksAndLogs() {
        DUE.by("3 logs OPENED so far, 4 CLOSED; 5 ASKS so far, 6 those that had a FINDING;");
        ContactHouse h = house();
        IntSupplier[] others = othersOf(h);
        for (int n = 0; n < others.length; n++) {
            others[n].getAsInt();
            for (int what = 3; what <= 6; what++) {
                DUE.is("count(" + what + ") behind other call " + n, h.count(what), 0);
            }
        }
        // The last of the other calls gave D1 a log of band 0; there is no station 4.
        int opened = 0;
        int found = 0;
        for (int n = 1; n <= 100; n++) {
            int s = n % 5;
            int band = n % 2;
            opened += s < 4 ? 1 : 0;
            found += band == 0 && (s == 0 || s == 1 || s == ALONE) ? 0 : 1;
            h.lines(s, band);
            DUE.is("opened", h.count(3), opened);
            DUE.is("closed", h.count(4), opened);
            DUE.is("asks", h.count(5), n);
            DUE.is("asks with a finding", h.count(6), found);
        }
    }

    private static void editions() {
        DUE.by("7 editions.");
        ContactHouse h = new ContactHouse();
        for (int n = 1; n <= 22; n++) {
            h.publish();
            DUE.is("editions", h.count(7), Math.min(n, 20));
        }
    }

    private static void noSuchWhat() {
        DUE.by("-1: no such what.");
        ContactHouse h = house();
        for (int off : new int[] {-1, 8, 9, 256, Integer.MIN_VALUE, Integer.MAX_VALUE}) {
            DUE.is("count(" + off + ")", h.count(off), -1);
        }
        for (int what = 0; what <= 7; what++) {
            DUE.is("count(" + what + ") is one", h.count(what) >= 0 ? 1 : 0, 1);
        }
    }

    private static void manyCalls() {
        DUE.by("An object is used for at most 512 calls after it has been made; what later calls answer is free.");
        ContactHouse h = new ContactHouse();
        for (int n = 1; n <= 511; n++) {
            h.lines(0, 0);
        }
        DUE.is("the 512th call", h.count(5), 511);
        // What these answer is free, but by rule 7 of LANGUAGE.md none of them throws.
        ContactHouse full = house();
        for (int n = 0; n < 600; n++) {
            for (IntSupplier other : othersOf(full)) {
                other.getAsInt();
            }
            for (LongSupplier ask : asksOf(full, n % 6 - 1)) {
                ask.getAsLong();
            }
        }
    }

    public static void main(String[] args) {
        opensIfThereIsOne();
        closesHowever();
        theFirstInItsOrder();
        notWorked();
        beyond();
        otherFindings();
        aRuleThatDivides();
        latestAsk();
        stationsBytesLines();
        asksAndLogs();
        editions();
        noSuchWhat();
        manyCalls();
        DUE.end();
    }
}
