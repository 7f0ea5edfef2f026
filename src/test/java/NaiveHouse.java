import java.nio.charset.StandardCharsets;
import java.util.ArrayList;
import java.util.HashMap;
import java.util.HashSet;
import java.util.List;
import java.util.Map;
import java.util.Set;

/**
 * The document once more, by the plainest means that follow its words: every offset of a range is
 * tried, and all ways to pair are gone through. The random runs compare the class with it; they
 * keep moments within 0 .. RANGE, where few contacts are paired.
 */
final class NaiveHouse {
    static final int RANGE = 400;

    private static final class Line {
        int kind;
        long first;
        long second;
        String call;
        Integer sent;
        Integer got;
        int owner;
        int band;
        int line;
        Line mate;
    }

    private static final class Station {
        int kind;
        int zone;
        int x;
        int y;
        String call;
        int team = -1;
        List<List<Line>> logs = new ArrayList<>(List.of(new ArrayList<>(), new ArrayList<>(), new ArrayList<>()));
        boolean[] there = new boolean[3];
        long offset;

        boolean hasLog() {
            return there[0] || there[1] || there[2];
        }
    }

    private static final class DividedBy0 extends Exception {
        private static final long serialVersionUID = 1;
    }

    private static final class Wrong extends Exception {
        private static final long serialVersionUID = 1;
        final int place;

        Wrong(int place) {
            this.place = place;
        }
    }

    private static final class Found extends Exception {
        private static final long serialVersionUID = 1;
        final int finding;

        Found(int finding) {
            this.finding = finding;
        }
    }

    private interface Ask {
        long work() throws Found, DividedBy0;
    }

    private String tape = "";
    private final List<Station> stations = new ArrayList<>();
    private List<Integer> wrongs = new ArrayList<>();
    private List<String> formula = List.of("1");
    private int window = 60;
    private int penalty;
    private final List<List<Integer>> editions = new ArrayList<>();
    private int finding;
    private int opened;
    private int asks;
    private int found;
    private boolean checked;

    public int feed(int a, int b, int c, int d, int e) {
        if (tape.length() > 980) {
            return -1;
        }
        StringBuilder more = new StringBuilder(tape);
        for (int number : new int[] {a, b, c, d, e}) {
            byte[] four = {(byte) (number >> 24), (byte) (number >> 16), (byte) (number >> 8), (byte) number};
            more.append(new String(four, StandardCharsets.ISO_8859_1));
        }
        tape = more.toString();
        return tape.length();
    }

    public int end(int n) {
        if (n < 0 || n > tape.length()) {
            return -1;
        }
        tape = tape.substring(0, n);
        return n;
    }

    private String takeTape() {
        checked = false;
        String text = tape;
        tape = "";
        return text;
    }

    public int station(int kind, int zone, int x, int y) {
        String call = takeTape();
        if (kind < 0 || kind > 4 || zone < 0 || zone > 39 || x < 0 || x > 99 || y < 0 || y > 99) {
            return -1;
        }
        if (!call.matches("[0-9A-Z]{1,6}")) {
            return -2;
        }
        if (numberOf(call) >= 0) {
            return -3;
        }
        if (stations.size() == 12) {
            return -4;
        }
        Station st = new Station();
        st.kind = kind;
        st.zone = zone;
        st.x = x;
        st.y = y;
        st.call = call;
        stations.add(st);
        return stations.size() - 1;
    }

    private boolean isThere(int s) {
        return s >= 0 && s < stations.size();
    }

    private int numberOf(String call) {
        for (int s = 0; s < stations.size(); s++) {
            if (stations.get(s).call.equals(call)) {
                return s;
            }
        }
        return -1;
    }

    public int join(int team, int s) {
        checked = false;
        if (!isThere(team) || !isThere(s) || stations.get(team).kind != 4) {
            return -1;
        }
        if (stations.get(s).kind == 4) {
            return -2;
        }
        if (stations.get(s).team >= 0) {
            return -3;
        }
        stations.get(s).team = team;
        return (int) stations.stream().filter(st -> st.team == team).count();
    }

    public int log(int s, int band) {
        String text = takeTape();
        wrongs = new ArrayList<>();
        if (!isThere(s) || band < 0 || band > 2) {
            return -1;
        }
        if (stations.get(s).kind == 4) {
            return -2;
        }
        List<Line> lines = new ArrayList<>();
        List<Integer> off = new ArrayList<>();
        String[] parts = text.split("\n", -1);
        for (int n = 0; n < parts.length; n++) {
            if (n == parts.length - 1 && parts[n].isEmpty()) {
                break;
            }
            try {
                lines.add(lineOf(parts[n]));
            } catch (Wrong wrong) {
                off.add(1000 * n + wrong.place);
            }
        }
        if (lines.size() > 16) {
            return -3;
        }
        for (int i = 0; i < lines.size(); i++) {
            lines.get(i).owner = s;
            lines.get(i).band = band;
            lines.get(i).line = i;
        }
        wrongs = off;
        stations.get(s).logs.set(band, lines);
        stations.get(s).there[band] = true;
        return lines.size();
    }

    private static List<int[]> wordsOf(String text) {
        List<int[]> words = new ArrayList<>();
        int start = -1;
        for (int i = 0; i <= text.length(); i++) {
            boolean inWord = i < text.length() && text.charAt(i) != ' ';
            if (inWord && start < 0) {
                start = i;
            }
            if (!inWord && start >= 0) {
                words.add(new int[] {start, i});
                start = -1;
            }
        }
        return words;
    }

    private static Line lineOf(String text) throws Wrong {
        List<int[]> words = wordsOf(text);
        Line line = new Line();
        String letter = word(text, words, 0, "[qrx]");
        if (letter.equals("x")) {
            line.kind = 2;
            return line;
        }
        line.first = Long.parseLong(word(text, words, 1, "[0-9]{1,10}"));
        if (letter.equals("r")) {
            line.kind = 1;
            line.second = Long.parseLong(word(text, words, 2, "[0-9]{1,10}"));
            noWord(words, 3);
            return line;
        }
        line.call = word(text, words, 2, "[0-9A-Z]{1,6}");
        if (words.size() > 3) {
            line.sent = Integer.valueOf(word(text, words, 3, "[0-9]{1,5}"));
        }
        if (words.size() > 4) {
            line.got = Integer.valueOf(word(text, words, 4, "[0-9]{1,5}"));
        }
        noWord(words, 5);
        return line;
    }

    private static String word(String text, List<int[]> words, int n, String form) throws Wrong {
        if (n >= words.size()) {
            throw new Wrong(text.length());
        }
        int[] place = words.get(n);
        String word = text.substring(place[0], place[1]);
        if (!word.matches(form)) {
            throw new Wrong(place[0]);
        }
        return word;
    }

    private static void noWord(List<int[]> words, int n) throws Wrong {
        if (n < words.size()) {
            throw new Wrong(words.get(n)[0]);
        }
    }

    public int wrong(int i) {
        return i >= 0 && i < wrongs.size() ? wrongs.get(i) : -1;
    }

    public int rule() {
        String text = takeTape();
        List<int[]> places = wordsOf(text);
        List<String> words = new ArrayList<>();
        for (int[] place : places) {
            words.add(text.substring(place[0], place[1]));
        }
        try {
            int behind = readExpression(words, 0, 0);
            if (behind < words.size()) {
                throw new Wrong(behind);
            }
        } catch (Wrong wrong) {
            return -1 - (wrong.place < places.size() ? places.get(wrong.place)[0] : text.length());
        }
        formula = words;
        return words.size();
    }

    /** Answers the number of the word behind the expression; a Wrong's place is the number of a word here. */
    private static int readExpression(List<String> words, int at, int around) throws Wrong {
        if (at >= words.size() || at >= 30) {
            throw new Wrong(at);
        }
        String word = words.get(at);
        if (word.matches("[0-9]{1,4}|band|kind|zone|mine|far")) {
            return at + 1;
        }
        if (!word.matches("[-+*/?]") || around == 8) {
            throw new Wrong(at);
        }
        int behind = at + 1;
        for (int n = 0; n < (word.equals("?") ? 3 : 2); n++) {
            behind = readExpression(words, behind, around + 1);
        }
        return behind;
    }

    private static int behind(List<String> words, int at) {
        int behind = at + 1;
        String word = words.get(at);
        int operands = word.equals("?") ? 3 : word.matches("[-+*/]") ? 2 : 0;
        for (int n = 0; n < operands; n++) {
            behind = behind(words, behind);
        }
        return behind;
    }

    private int value(int at, Line c, Station other) throws DividedBy0 {
        String word = formula.get(at);
        int second = at + 1 < formula.size() ? behind(formula, at + 1) : 0;
        Station own = stations.get(c.owner);
        switch (word) {
            case "band": return c.band;
            case "kind": return other.kind;
            case "zone": return other.zone;
            case "mine": return own.zone;
            case "far": return (int) Math.floor(Math.sqrt(sq(own.x - other.x) + sq(own.y - other.y)));
            case "+": return value(at + 1, c, other) + value(second, c, other);
            case "-": return value(at + 1, c, other) - value(second, c, other);
            case "*": return value(at + 1, c, other) * value(second, c, other);
            case "?":
                return value(at + 1, c, other) > 0 ? value(second, c, other) : value(behind(formula, second), c, other);
            case "/":
                int a = value(at + 1, c, other);
                int b = value(second, c, other);
                if (b == 0) {
                    throw new DividedBy0();
                }
                return a / b;
            default: return Integer.parseInt(word);
        }
    }

    private static int sq(int n) {
        return n * n;
    }

    public int window(int w) {
        checked = false;
        if (w < 0 || w > 3600) {
            return -1;
        }
        window = w;
        return 1;
    }

    public int penalty(int p) {
        checked = false;
        if (p < 0 || p > 1000) {
            return -1;
        }
        penalty = p;
        return 1;
    }

    private long ask(int s, Ask ask) {
        asks++;
        finding = 0;
        if (!isThere(s)) {
            finding = 4;
        } else {
            opened++;
            try {
                return ask.work();
            } catch (Found e) {
                finding = e.finding;
            } catch (DividedBy0 e) {
                finding = 5;
            }
        }
        found++;
        return 0;
    }

    private static void need(boolean holds, int finding) throws Found {
        if (!holds) {
            throw new Found(finding);
        }
    }

    private List<Line> logOf(int s, int band) throws Found {
        need(band >= 0 && band <= 2, 6);
        need(stations.get(s).there[band], 1);
        return stations.get(s).logs.get(band);
    }

    private Line lineOf(int s, int band, int i) throws Found {
        List<Line> lines = logOf(s, band);
        need(i >= 0 && i < lines.size(), 2);
        return lines.get(i);
    }

    private Line contactOf(int s, int band, int i) throws Found {
        Line line = lineOf(s, band, i);
        need(line.kind == 0, 3);
        return line;
    }

    public int lines(int s, int band) {
        return (int) ask(s, () -> logOf(s, band).size());
    }

    public int entry(int s, int band, int i) {
        return (int) ask(s, () -> lineOf(s, band, i).kind);
    }

    public long moment(int s, int band, int i, int k) {
        return ask(s, () -> {
            Line line = lineOf(s, band, i);
            need(line.kind != 2, 3);
            need(k == 0 || k == 1 && line.kind == 1, 2);
            return k == 0 ? line.first : line.second;
        });
    }

    public int character(int s, int band, int i, int k) {
        return (int) ask(s, () -> {
            Line c = contactOf(s, band, i);
            need(k >= 0 && k < c.call.length(), 2);
            return c.call.charAt(k);
        });
    }

    public int number(int s, int band, int i, int k) {
        return (int) ask(s, () -> {
            Line c = contactOf(s, band, i);
            need(k == 0 && c.sent != null || k == 1 && c.got != null, 2);
            return k == 0 ? c.sent : c.got;
        });
    }

    private List<Line> contacts(int s, int band) {
        List<Line> all = new ArrayList<>();
        for (Line line : stations.get(s).logs.get(band)) {
            if (line.kind == 0) {
                all.add(line);
            }
        }
        return all;
    }

    private List<Line> contacts(int s) {
        List<Line> all = new ArrayList<>();
        for (int band = 0; band < 3; band++) {
            all.addAll(contacts(s, band));
        }
        return all;
    }

    private boolean agree(Line c, String callOfC, long o, Line d, long p) {
        return c.owner != d.owner && c.band == d.band
            && callOfC.equals(stations.get(d.owner).call) && d.call.equals(stations.get(c.owner).call)
            && c.sent != null && c.got != null && d.sent != null && d.got != null
            && c.got.equals(d.sent) && c.sent.equals(d.got)
            && Math.abs(c.first + o - (d.first + p)) <= window;
    }

    private boolean agree(Line c, Line d) {
        return agree(c, c.call, stations.get(c.owner).offset, d, stations.get(d.owner).offset);
    }

    private boolean isMost(int s, long o) {
        int all = 0;
        int agreeing = 0;
        for (Line c : contacts(s)) {
            int t = numberOf(c.call);
            if (t < 0 || t == s || !stations.get(t).hasLog()) {
                continue;
            }
            all++;
            if (contacts(t).stream().anyMatch(d -> agree(c, c.call, o, d, 0))) {
                agreeing++;
            }
        }
        return 2 * agreeing > all;
    }

    private long workOffset(int s) {
        if (contacts(s).isEmpty()) {
            return 0;
        }
        for (long o = 0; o <= RANGE + window; o++) {
            if (isMost(s, -o)) {
                return -o;
            }
            if (isMost(s, o)) {
                return o;
            }
        }
        return 0;
    }

    /** Goes through all ways, the first ones first, and keeps the first of the best. */
    private final class Ways {
        final List<Line> mine;
        final List<Line> theirs;
        final Line[] now;
        Line[] best;
        int bestPairs = -1;
        long bestSum;

        Ways(List<Line> mine, List<Line> theirs) {
            this.mine = mine;
            this.theirs = theirs;
            now = new Line[mine.size()];
        }

        void from(int n, int pairs, long sum) {
            if (n == mine.size()) {
                if (pairs > bestPairs || pairs == bestPairs && sum < bestSum) {
                    bestPairs = pairs;
                    bestSum = sum;
                    best = now.clone();
                }
                return;
            }
            Line c = mine.get(n);
            for (Line d : theirs) {
                if (d.mate == null && agree(c, d)) {
                    d.mate = c;
                    now[n] = d;
                    long distance = c.first + stations.get(c.owner).offset - d.first - stations.get(d.owner).offset;
                    from(n + 1, pairs + 1, sum + Math.abs(distance));
                    d.mate = null;
                }
            }
            now[n] = null;
            from(n + 1, pairs, sum);
        }

        void settle() {
            from(0, 0, 0);
            for (int n = 0; n < best.length; n++) {
                if (best[n] != null) {
                    mine.get(n).mate = best[n];
                    best[n].mate = mine.get(n);
                }
            }
        }
    }

    /** The contacts of s with t. */
    private List<Line> contactsWith(int s, int t, int band) {
        List<Line> all = contacts(s, band);
        all.removeIf(c -> !c.call.equals(stations.get(t).call));
        return all;
    }

    private void check() {
        if (checked) {
            return;
        }
        checked = true;
        for (int s = 0; s < stations.size(); s++) {
            for (Line c : contacts(s)) {
                c.mate = null;
            }
            stations.get(s).offset = workOffset(s);
        }
        for (int s = 0; s < stations.size(); s++) {
            for (int t = s + 1; t < stations.size(); t++) {
                for (int band = 0; band < 3; band++) {
                    new Ways(contactsWith(s, t, band), contactsWith(t, s, band)).settle();
                }
            }
        }
    }

    private boolean isDupe(Line c) {
        for (Line e : contacts(c.owner, c.band)) {
            if (e != c && e.mate != null && e.mate.owner == c.mate.owner
                && (e.first < c.first || e.first == c.first && e.line < c.line)) {
                return true;
            }
        }
        return false;
    }

    private int meantBy(Line c) {
        Map<Integer, Long> earliest = new HashMap<>();
        for (int t = 0; t < stations.size(); t++) {
            String call = stations.get(t).call;
            if (t == c.owner || !stations.get(t).hasLog() || !differByOne(c.call, call)) {
                continue;
            }
            for (Line d : contacts(t, c.band)) {
                if (d.mate == null && agree(c, call, stations.get(c.owner).offset, d, stations.get(t).offset)) {
                    earliest.merge(t, d.first + stations.get(t).offset, Math::min);
                }
            }
        }
        int meant = -1;
        for (int t = 0; t < stations.size(); t++) {
            if (earliest.containsKey(t) && (meant < 0 || earliest.get(t) < earliest.get(meant))) {
                meant = t;
            }
        }
        return meant;
    }

    private static boolean differByOne(String a, String b) {
        if (a.length() != b.length()) {
            return false;
        }
        int places = 0;
        for (int i = 0; i < a.length(); i++) {
            places += a.charAt(i) == b.charAt(i) ? 0 : 1;
        }
        return places == 1;
    }

    private int whyOf(Line c) {
        int t = numberOf(c.call);
        if (c.mate != null) {
            return isDupe(c) ? 1 : 0;
        }
        if (c.sent == null || c.got == null) {
            return 2;
        }
        if (t < 0 && meantBy(c) >= 0) {
            return 3;
        }
        Set<Integer> holders = new HashSet<>();
        for (int s = 0; s < stations.size(); s++) {
            if (contacts(s).stream().anyMatch(e -> e.call.equals(c.call))) {
                holders.add(s);
            }
        }
        if (t < 0 && holders.size() < 3) {
            return 4;
        }
        return t >= 0 && t != c.owner && stations.get(t).hasLog() ? 5 : 6;
    }

    public long offset(int s) {
        return ask(s, () -> {
            need(stations.get(s).hasLog(), 7);
            check();
            return stations.get(s).offset;
        });
    }

    public int pair(int s, int band, int i) {
        return (int) ask(s, () -> {
            Line c = contactOf(s, band, i);
            check();
            return c.mate == null ? -1 : 100 * c.mate.owner + c.mate.line;
        });
    }

    public int why(int s, int band, int i) {
        return (int) ask(s, () -> {
            Line c = contactOf(s, band, i);
            check();
            return whyOf(c);
        });
    }

    public int meant(int s, int band, int i) {
        return (int) ask(s, () -> {
            Line c = contactOf(s, band, i);
            check();
            return whyOf(c) == 3 ? meantBy(c) : -1;
        });
    }

    private int pointsOf(Line c) throws DividedBy0 {
        int t = numberOf(c.call);
        return t < 0 ? 0 : value(0, c, stations.get(t));
    }

    public int points(int s, int band, int i) {
        return (int) ask(s, () -> pointsOf(contactOf(s, band, i)));
    }

    private int totalOf(int s) throws DividedBy0 {
        Station st = stations.get(s);
        if (st.kind == 4) {
            int sum = 0;
            for (int t = 0; t < stations.size(); t++) {
                sum += stations.get(t).team == s ? totalOf(t) : 0;
            }
            return sum;
        }
        int sum = 0;
        int misheard = 0;
        Set<List<Integer>> zones = new HashSet<>();
        for (Line c : contacts(s)) {
            int why = whyOf(c);
            misheard += why == 3 ? 1 : 0;
            if (why == 0) {
                sum += pointsOf(c) * (st.kind == 2 ? 2 : 1);
                zones.add(List.of(c.band, stations.get(numberOf(c.call)).zone));
            }
        }
        int checked = sum * zones.size() - penalty * misheard;
        switch (st.kind) {
            case 0: return checked;
            case 1: return checked * 2 / 3;
            case 2: return checked * 2 / 3 + 50;
            default: return 0;
        }
    }

    private int totalOrZero(int s) {
        try {
            return totalOf(s);
        } catch (DividedBy0 e) {
            return 0;
        }
    }

    public int total(int s) {
        return (int) ask(s, () -> {
            check();
            return totalOf(s);
        });
    }

    public long rate(int s) {
        return ask(s, () -> {
            need(stations.get(s).hasLog(), 7);
            check();
            List<Line> all = contacts(s);
            long first = all.stream().mapToLong(c -> c.first).min().orElse(0);
            long last = all.stream().mapToLong(c -> c.first).max().orElse(0);
            need(last > first, 5);
            return 3600 * all.stream().filter(c -> whyOf(c) == 0).count() / (last - first);
        });
    }

    public int place(int s) {
        return (int) ask(s, () -> {
            need(stations.get(s).kind < 3, 7);
            check();
            int place = 1;
            for (int t = 0; t < stations.size(); t++) {
                place += stations.get(t).kind < 3 && totalOrZero(t) > totalOrZero(s) ? 1 : 0;
            }
            return place;
        });
    }

    public int publish() {
        if (editions.size() == 20) {
            return -1;
        }
        check();
        List<Integer> totals = new ArrayList<>();
        for (int s = 0; s < stations.size(); s++) {
            totals.add(totalOrZero(s));
        }
        editions.add(totals);
        return editions.size();
    }

    public int known(int edition, int s) {
        return (int) ask(s, () -> {
            need(edition >= 1 && edition <= editions.size(), 2);
            need(s < editions.get(edition - 1).size(), 2);
            return editions.get(edition - 1).get(s);
        });
    }

    public int finding() {
        return finding;
    }

    public int count(int what) {
        int[] counts = {stations.size(), tape.length(), wrongs.size(), opened, opened, asks, found, editions.size()};
        return what >= 0 && what < counts.length ? counts[what] : -1;
    }
}
