import java.io.IOException;
import java.nio.charset.StandardCharsets;
import java.nio.file.Files;
import java.nio.file.Path;

/** What the tests share: answers that are due are compared, and texts are put on a house's tape. */
final class Due {
    static final Path DOCUMENT = Path.of("../shared/DOC.md");

    private final String test;
    private final String document = documentText();
    private String sentence = "";
    private int wrong;

    Due(String test) {
        this.test = test;
    }

    /** Empty where the document is not at hand: its sentences are not compared then. */
    static String documentText() {
        try {
            return Files.exists(DOCUMENT) ? Files.readString(DOCUMENT) : "";
        } catch (IOException e) {
            throw new IllegalStateException(e);
        }
    }

    /** The words of the document that the next answers are due by; a quote that it does not have is wrong. */
    void by(String words) {
        sentence = words;
        if (!document.isEmpty() && !document.contains(words)) {
            wrong++;
            System.out.println(test + ": the document does not say '" + words + "'");
        }
    }

    void is(String call, long got, long want) {
        if (got != want) {
            wrong++;
            String by = sentence.isEmpty() ? "" : ", by '" + sentence + "'";
            System.out.println(test + ": " + call + " answered " + got + ", due is " + want + by);
        }
    }

    /** The answer of an ask, and the finding that it left. */
    void ask(ContactHouse house, String call, long got, long want, int finding) {
        is(call, got, want);
        is(call + ", its finding", house.finding(), finding);
    }

    void end() {
        System.out.println(wrong == 0 ? "all answers are as due" : wrong + " answers are not as due");
        if (wrong != 0) {
            System.exit(1);
        }
    }

    static int[] numbersOf(byte[] twentyBytes) {
        int[] numbers = new int[5];
        for (int i = 0; i < 20; i++) {
            numbers[i / 4] = numbers[i / 4] << 8 | twentyBytes[i] & 255;
        }
        return numbers;
    }

    /** Puts a text on an empty tape. */
    static void feed(ContactHouse house, String text) {
        byte[] bytes = text.getBytes(StandardCharsets.ISO_8859_1);
        for (int from = 0; from < bytes.length; from += 20) {
            byte[] twenty = new byte[20];
            System.arraycopy(bytes, from, twenty, 0, Math.min(20, bytes.length - from));
            int[] n = numbersOf(twenty);
            house.feed(n[0], n[1], n[2], n[3], n[4]);
        }
        house.end(bytes.length);
    }

    static int station(ContactHouse house, String call, int kind, int zone, int x, int y) {
        feed(house, call);
        return house.station(kind, zone, x, y);
    }

    static int station(ContactHouse house, String call) {
        return station(house, call, 0, 0, 0, 0);
    }

    /** A house with SINGLES of these calls, all of zone 0 and in one square. */
    static ContactHouse houseOf(String... calls) {
        ContactHouse house = new ContactHouse();
        for (String call : calls) {
            station(house, call);
        }
        return house;
    }

    static int log(ContactHouse house, int s, int band, String... lines) {
        feed(house, String.join("\n", lines));
        return house.log(s, band);
    }

    static int rule(ContactHouse house, String words) {
        feed(house, words);
        return house.rule();
    }
}
