import java.lang.reflect.Method;
import java.nio.charset.StandardCharsets;
import java.util.Arrays;
import java.util.Comparator;
import java.util.Random;

/** Runs of calls by chance, always the same ones, on the class and on the naive house. */
public final class RandomRunsTest {
    private static final int RUNS = 300;
    private static final int CALLS = 512;
    private static final String[] CALL_SIGNS = {"A", "B", "C", "AB", "AC", "BC", "BB", "1A2", "1A3", "1B2", "ABCDEF", "ABCDEG", "Z"};
    private static final String[] RULE_WORDS = {
        "+", "-", "*", "/", "?", "+", "-", "*", "/", "?", "band", "kind", "zone", "mine", "far", "0", "1", "2", "7", "9999"};
    private static final int[] EDGES = {-1, Integer.MIN_VALUE, Integer.MAX_VALUE, 0, 1, 2, 3, 4, 5, 12, 16, 20, 39, 40, 99, 100};
    private static final Method[] ASKS = facesOf(
        "lines", "entry", "moment", "character", "number", "offset", "pair", "why", "meant", "points", "total", "rate",
        "place", "known", "wrong", "count", "finding");
    private static final Method[] ALL = facesOf();

    private final Random random;
    private final int run;
    private final Due due;
    private final ContactHouse house = new ContactHouse();
    private final NaiveHouse naive = new NaiveHouse();
    private int calls;

    private RandomRunsTest(int run, Due due) {
        this.run = run;
        this.due = due;
        random = new Random(run);
    }

    private static Method[] facesOf(String... names) {
        return Arrays.stream(ContactHouse.class.getMethods())
            .filter(m -> m.getDeclaringClass() == ContactHouse.class)
            .filter(m -> names.length == 0 || Arrays.asList(names).contains(m.getName()))
            .sorted(Comparator.comparing(Method::getName))
            .toArray(Method[]::new);
    }

    private long call(Method method, Object... numbers) throws ReflectiveOperationException {
        calls++;
        Method other = NaiveHouse.class.getMethod(method.getName(), method.getParameterTypes());
        long got = ((Number) method.invoke(house, numbers)).longValue();
        long want = ((Number) other.invoke(naive, numbers)).longValue();
        due.is("run " + run + ", call " + calls + ", " + method.getName() + Arrays.toString(numbers), got, want);
        return got;
    }

    private long call(String name, Object... numbers) throws ReflectiveOperationException {
        for (Method method : ALL) {
            if (method.getName().equals(name)) {
                return call(method, numbers);
            }
        }
        throw new NoSuchMethodException(name);
    }

    private void feed(String text) throws ReflectiveOperationException {
        byte[] bytes = text.getBytes(StandardCharsets.ISO_8859_1);
        for (int from = 0; from < bytes.length; from += 20) {
            byte[] twenty = Arrays.copyOf(Arrays.copyOfRange(bytes, from, Math.min(bytes.length, from + 20)), 20);
            int[] n = Due.numbersOf(twenty);
            call("feed", n[0], n[1], n[2], n[3], n[4]);
        }
        call("end", Math.min(bytes.length, house.count(1)));
    }

    private int below(int bound) {
        return random.nextInt(bound);
    }

    private boolean oneIn(int chances) {
        return below(chances) == 0;
    }

    private String pick(String... texts) {
        return texts[below(texts.length)];
    }

    private String contact(int range, int shift, int numbers, int signs) {
        StringBuilder line = new StringBuilder("q ");
        line.append(below(range) + shift).append(' ').append(CALL_SIGNS[below(signs)]);
        if (!oneIn(12)) {
            line.append(' ').append(below(numbers));
            if (!oneIn(12)) {
                line.append(' ').append(below(numbers));
            }
        }
        return line.toString();
    }

    private String line(int range, int shift, int numbers, int signs) {
        return oneIn(8) ? oddLine() : contact(range, shift, numbers, signs);
    }

    private String oddLine() {
        return pick("", " ", "x", "  x y", "xx", "r 1 2", "r 1", "r 1 2 3", "r 1 x", "q", "q 1", "q 1 a", "q a A", "q 1 A 1 2 3",
            "q  1  A  1 ", " q 1 A 123456", "q 1 A 1 1234567", "q 12345678901 A", "q 1 ABCDEFG", "q 00000 A 01 00", "Q 1 A", "q 1 A -1",
            "x\u0000\u00ff", "x \u0000\u00ff", "r 9999999999 0", "q\t1 A");
    }

    private void makeLog() throws ReflectiveOperationException {
        int lines = oneIn(10) ? below(20) : below(7);
        int range = oneIn(2) ? 20 : 100;
        int shift = oneIn(3) ? below(NaiveHouse.RANGE - range) : 0;
        int numbers = oneIn(2) ? 1 : 2;
        int signs = oneIn(3) ? CALL_SIGNS.length : 4;
        StringBuilder text = new StringBuilder();
        for (int i = 0; i < lines; i++) {
            text.append(line(range, shift, numbers, signs)).append(i == lines - 1 && oneIn(2) ? "" : "\n");
        }
        feed(text.toString());
        call("log", oneIn(20) ? pickNumber() : below(Math.max(1, house.count(0))), oneIn(20) ? pickNumber() : below(2));
    }

    /** Contacts that took place, as both sides logged them: with clocks that are off, and with errors. */
    private void makeContest() throws ReflectiveOperationException {
        int stations = Math.min(house.count(0), 4);
        if (stations < 2) {
            return;
        }
        int band = below(2);
        StringBuilder[] texts = new StringBuilder[stations];
        int[] shifts = new int[stations];
        for (int s = 0; s < stations; s++) {
            texts[s] = new StringBuilder();
            shifts[s] = oneIn(3) ? below(201) - 100 : 0;
        }
        int numbers = 1 + below(3);
        int spread = oneIn(2) ? 10 : 100;
        for (int n = 3 + below(3 * stations); n > 0; n--) {
            int a = below(stations);
            int b = (a + 1 + below(stations - 1)) % stations;
            int moment = 150 + below(spread);
            int there = below(numbers);
            int back = below(numbers);
            logContact(texts[a], moment + shifts[a], b, there, back);
            logContact(texts[b], moment + shifts[b], a, back, there);
        }
        for (int s = 0; s < stations; s++) {
            feed(texts[s].toString());
            call("log", s, band);
        }
    }

    private void logContact(StringBuilder text, int moment, int with, int sent, int got) {
        String sign = CALL_SIGNS[oneIn(4) ? below(CALL_SIGNS.length) : with];
        int jitter = oneIn(2) ? below(7) - 3 : 0;
        if (!oneIn(10)) {
            text.append("q ").append(moment + jitter).append(' ').append(sign).append(' ').append(sent);
            text.append(oneIn(15) ? "" : " " + (oneIn(15) ? got + 1 : got)).append('\n');
        }
        if (oneIn(12)) {
            text.append(oneIn(3) ? pick("x", "r 5 7", "r 7 7") : oddLine()).append('\n');
        }
    }

    private void askAll() throws ReflectiveOperationException {
        for (int s = 0; s < house.count(0); s++) {
            for (String ask : new String[] {"offset", "total", "rate", "place"}) {
                call(ask, s);
                call("finding");
            }
            for (int band = 0; band < 2; band++) {
                int lines = (int) call("lines", s, band);
                for (int i = 0; i < lines && calls < CALLS; i++) {
                    for (String ask : new String[] {"pair", "why", "meant"}) {
                        call(ask, s, band, i);
                    }
                }
            }
        }
    }

    private void makeRule() throws ReflectiveOperationException {
        StringBuilder text = new StringBuilder();
        appendExpression(text, oneIn(8) ? 9 : 3);
        if (oneIn(8)) {
            text.append(pick(" 1", " ", "x", "+", " band"));
        }
        feed(text.toString());
        call("rule");
    }

    private void appendExpression(StringBuilder text, int levels) {
        String word = RULE_WORDS[below(RULE_WORDS.length)];
        int operands = word.equals("?") ? 3 : "+-*/".contains(word) ? 2 : 0;
        if (operands > 0 && levels == 0) {
            word = "1";
            operands = 0;
        }
        text.append(oneIn(60) ? "?!" : word).append(oneIn(20) ? "  " : " ");
        for (int n = 0; n < operands && !oneIn(100); n++) {
            appendExpression(text, levels - 1);
        }
    }

    private int pickNumber() {
        return oneIn(3) ? random.nextInt() : EDGES[below(EDGES.length)];
    }

    private void makeStation(int number) throws ReflectiveOperationException {
        feed(oneIn(12) ? pick("", "a", "A B", "ABCDEFG", "A\n", "-") : CALL_SIGNS[number % CALL_SIGNS.length]);
        int kind = oneIn(2) ? below(5) : below(3);
        call("station", oneIn(30) ? pickNumber() : kind, oneIn(30) ? pickNumber() : below(3), below(100), below(100));
    }

    private void askSomething() throws ReflectiveOperationException {
        Method ask = ASKS[below(ASKS.length)];
        Object[] numbers = new Object[ask.getParameterCount()];
        for (int n = 0; n < numbers.length; n++) {
            numbers[n] = oneIn(25) ? pickNumber() : below(n == 0 ? Math.max(1, house.count(0)) : n == 2 ? 6 : 2);
        }
        if (ask.getName().equals("known") || ask.getName().equals("count")) {
            numbers[0] = below(9);
        }
        call(ask, numbers);
        call("finding");
    }

    private void doAnything() throws ReflectiveOperationException {
        Method any = ALL[below(ALL.length)];
        Object[] numbers = new Object[any.getParameterCount()];
        for (int n = 0; n < numbers.length; n++) {
            numbers[n] = pickNumber();
        }
        // The naive house goes through all offsets up to the window: a great one would take it long.
        if (!any.getName().equals("window") || (int) numbers[0] < 50 || (int) numbers[0] > 3600) {
            call(any, numbers);
        }
    }

    private void work() throws ReflectiveOperationException {
        int first = 2 + below(4);
        for (int n = 0; n < first; n++) {
            makeStation(n);
        }
        makeContest();
        askAll();
        while (calls < CALLS) {
            switch (below(30)) {
                case 0: case 1: makeLog(); break;
                case 2: makeContest(); break;
                case 3: askAll(); break;
                case 4: makeRule(); break;
                case 5: call("window", below(oneIn(2) ? 5 : 60)); break;
                case 6: call("penalty", below(1002)); break;
                case 7: call("publish"); break;
                case 8: call("join", below(house.count(0) + 1), below(house.count(0) + 1)); break;
                case 9: if (oneIn(2)) makeStation(below(CALL_SIGNS.length)); break;
                case 10: doAnything(); break;
                default: askSomething(); break;
            }
        }
        for (int what = 0; what < 8; what++) {
            call("count", what);
        }
    }

    public static void main(String[] args) throws ReflectiveOperationException {
        Due due = new Due("RandomRunsTest");
        int runs = args.length > 0 ? Integer.parseInt(args[0]) : RUNS;
        for (int run = 0; run < runs; run++) {
            new RandomRunsTest(run, due).work();
        }
        due.end();
    }
}
