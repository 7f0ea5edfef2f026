import java.util.ArrayList;
import java.util.Arrays;
import java.util.List;
import java.util.Random;
import java.util.TreeSet;

/**
 * OFFSETS, PAIRS and WHY of full logs by chance, always the same ones, with moments of up to ten
 * digits and windows of up to an hour: the naive house would go through too many ways there. Here
 * the best ways are told by which lines of T are taken.
 */
public final class FullLogsTest {
    private static final Due DUE = new Due("FullLogsTest");
    private static final int RUNS = 40;
    private static final int LINES = 16;
    private static final long GREATEST = 9999999999L;
    private static final long WORTH_OF_A_PAIR = 1000000;

    private record Contact(long moment, int with, int sent, int got) {
        boolean answers(Contact d) {
            return got == d.sent && sent == d.got;
        }
    }

    private final Random random;
    private final int run;
    private final int stations;
    private final int window;
    private final int numbers;
    private final Contact[][] logs;
    private final long[] offsets;
    private final int[][] mates;

    private FullLogsTest(int run) {
        this.run = run;
        random = new Random(run);
        stations = 2 + run % 3;
        window = random.nextInt(run % 2 == 0 ? 3601 : 20);
        numbers = 1 + random.nextInt(2);
        logs = new Contact[stations][LINES];
        offsets = new long[stations];
        mates = new int[stations][LINES];
    }

    private void makeLogs() {
        long[] bases = new long[stations];
        long spread = 1 + random.nextInt(2 * window + 40);
        for (int s = 0; s < stations; s++) {
            long farOff = random.nextInt(3) == 0 ? (long) (random.nextDouble() * (GREATEST - spread)) : 0;
            bases[s] = random.nextInt(2) == 0 ? 5000 : farOff;
        }
        for (int s = 0; s < stations; s++) {
            for (int i = 0; i < LINES; i++) {
                int with = (s + 1 + random.nextInt(stations - 1)) % stations;
                long moment = bases[s] + (long) (random.nextDouble() * spread);
                logs[s][i] = new Contact(moment, with, random.nextInt(numbers), random.nextInt(numbers));
            }
        }
    }

    private boolean mostAgree(int s, long o) {
        int agreeing = 0;
        for (Contact c : logs[s]) {
            for (Contact d : logs[c.with]) {
                if (d.with == s && c.answers(d) && Math.abs(c.moment + o - d.moment) <= window) {
                    agreeing++;
                    break;
                }
            }
        }
        return 2 * agreeing > LINES;
    }

    /** How many agree changes only where a contact comes within the window or leaves it. */
    private long offsetOf(int s) {
        TreeSet<Long> steps = new TreeSet<>((a, b) ->
            Math.abs(a) != Math.abs(b) ? Long.compare(Math.abs(a), Math.abs(b)) : Long.compare(a, b));
        steps.add(0L);
        for (Contact c : logs[s]) {
            for (Contact d : logs[c.with]) {
                long gap = d.moment - c.moment;
                for (long side : new long[] {gap - window, gap + window}) {
                    steps.addAll(List.of(side - 1, side, side + 1));
                }
            }
        }
        for (long o : steps) {
            if (mostAgree(s, o)) {
                return o;
            }
        }
        return 0;
    }

    private List<Integer> linesWith(int s, int t) {
        List<Integer> lines = new ArrayList<>();
        for (int i = 0; i < LINES; i++) {
            if (logs[s][i].with == t) {
                lines.add(i);
            }
        }
        return lines;
    }

    /** 0 if they do not agree. */
    private long worth(int s, int i, int t, int j) {
        long distance = Math.abs(logs[s][i].moment + offsets[s] - logs[t][j].moment - offsets[t]);
        return logs[s][i].answers(logs[t][j]) && distance <= window ? WORTH_OF_A_PAIR - distance : 0;
    }

    private void pairUp(int s, int t) {
        List<Integer> mine = linesWith(s, t);
        List<Integer> theirs = linesWith(t, s);
        long[][] best = new long[mine.size() + 1][1 << theirs.size()];
        for (int n = mine.size() - 1; n >= 0; n--) {
            for (int taken = 0; taken < best[n].length; taken++) {
                best[n][taken] = best[n + 1][taken];
                for (int m = 0; m < theirs.size(); m++) {
                    long worth = (taken >> m & 1) == 0 ? worth(s, mine.get(n), t, theirs.get(m)) : 0;
                    if (worth > 0) {
                        best[n][taken] = Math.max(best[n][taken], worth + best[n + 1][taken | 1 << m]);
                    }
                }
            }
        }
        int taken = 0;
        for (int n = 0; n < mine.size(); n++) {
            for (int m = 0; m < theirs.size(); m++) {
                long worth = (taken >> m & 1) == 0 ? worth(s, mine.get(n), t, theirs.get(m)) : 0;
                if (worth > 0 && worth + best[n + 1][taken | 1 << m] == best[n][taken]) {
                    mates[s][mine.get(n)] = 100 * t + theirs.get(m);
                    mates[t][theirs.get(m)] = 100 * s + mine.get(n);
                    taken |= 1 << m;
                    break;
                }
            }
        }
    }

    private int whyOf(int s, int i) {
        if (mates[s][i] < 0) {
            return 5;
        }
        for (int e = 0; e < LINES; e++) {
            boolean earlier = logs[s][e].moment < logs[s][i].moment || logs[s][e].moment == logs[s][i].moment && e < i;
            if (mates[s][e] >= 0 && logs[s][e].with == logs[s][i].with && earlier) {
                return 1;
            }
        }
        return 0;
    }

    private static String sign(int s) {
        return "K" + s;
    }

    private ContactHouse house(int band) {
        ContactHouse house = new ContactHouse();
        for (int s = 0; s < stations; s++) {
            Due.station(house, sign(s));
        }
        house.window(window);
        for (int s = 0; s < stations; s++) {
            String[] lines = new String[LINES];
            for (int i = 0; i < LINES; i++) {
                Contact c = logs[s][i];
                lines[i] = "q " + c.moment + " " + sign(c.with) + " " + c.sent + " " + c.got;
            }
            DUE.is("run " + run + ": log(" + s + ", " + band + ")", Due.log(house, s, band, lines), LINES);
        }
        return house;
    }

    private void compare() {
        int band = run % 3;
        ContactHouse house = house(band);
        for (int s = 0; s < stations; s++) {
            DUE.is("run " + run + ": offset(" + s + ")", house.offset(s), offsets[s]);
            for (int i = 0; i < LINES; i++) {
                String line = "(" + s + ", " + band + ", " + i + ")";
                DUE.is("run " + run + ": pair" + line, house.pair(s, band, i), mates[s][i]);
                DUE.is("run " + run + ": why" + line, house.why(s, band, i), whyOf(s, i));
            }
        }
    }

    private int work() {
        makeLogs();
        for (int s = 0; s < stations; s++) {
            Arrays.fill(mates[s], -1);
            offsets[s] = offsetOf(s);
        }
        for (int s = 0; s < stations; s++) {
            for (int t = s + 1; t < stations; t++) {
                pairUp(s, t);
            }
        }
        compare();
        return (int) Arrays.stream(mates).flatMapToInt(Arrays::stream).filter(mate -> mate >= 0).count();
    }

    public static void main(String[] args) {
        int runs = args.length > 0 ? Integer.parseInt(args[0]) : RUNS;
        int paired = 0;
        for (int run = 0; run < runs; run++) {
            paired += new FullLogsTest(run).work();
        }
        DUE.is("pairs are not too few to tell anything: " + paired, paired > 8 * runs ? 1 : 0, 1);
        DUE.end();
    }
}
