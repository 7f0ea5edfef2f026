import java.io.IOException;
import java.nio.file.DirectoryStream;
import java.nio.file.Files;
import java.nio.file.Path;
import java.util.ArrayList;
import java.util.Arrays;
import java.util.List;
import java.util.regex.Matcher;
import java.util.regex.Pattern;

/** Every word of the document's terms and promises is quoted by a test that is named for the edges it looks at. */
public final class QuotesTest {
    private static final Due DUE = new Due("QuotesTest");
    private static final Pattern QUOTE = Pattern.compile("DUE\\.by\\(((?:\\s*\\+?\\s*\"(?:\\\\.|[^\"\\\\])*\")+)\\)");
    private static final Pattern PART = Pattern.compile("\"((?:\\\\.|[^\"\\\\])*)\"");
    /** What stands between the sentences: headings, the form of each call, marks of sections and of texts. */
    private static final Pattern BETWEEN = Pattern.compile(
        "(?m)^## .*$|^Ahead of the calls .*$|^`[^`]*`:|^```(text)?$|==== \\d");

    private static List<String> quotes() throws IOException {
        List<String> quotes = new ArrayList<>();
        try (DirectoryStream<Path> files = Files.newDirectoryStream(Path.of("src/test/java"), "EdgesOf*Test.java")) {
            for (Path file : files) {
                Matcher quote = QUOTE.matcher(Files.readString(file));
                while (quote.find()) {
                    StringBuilder words = new StringBuilder();
                    Matcher part = PART.matcher(quote.group(1));
                    while (part.find()) {
                        words.append(part.group(1).replace("\\\"", "\""));
                    }
                    quotes.add(words.toString());
                }
            }
        }
        return quotes;
    }

    private static void markAll(String text, String words, boolean[] marked) {
        for (int at = text.indexOf(words); at >= 0; at = text.indexOf(words, at + 1)) {
            Arrays.fill(marked, at, at + words.length(), true);
        }
    }

    private static void everyWord(String text) throws IOException {
        boolean[] marked = new boolean[text.length()];
        for (String words : quotes()) {
            markAll(text, words, marked);
        }
        Matcher between = BETWEEN.matcher(text);
        while (between.find()) {
            Arrays.fill(marked, between.start(), between.end(), true);
        }
        StringBuilder left = new StringBuilder();
        for (int i = 0; i < text.length(); i++) {
            left.append(marked[i] ? ' ' : text.charAt(i));
        }
        String words = left.toString().trim().replaceAll("\\s+", " ");
        DUE.is("letters of words that no test quotes: '" + words + "'", words.length(), 0);
    }

    public static void main(String[] args) throws IOException {
        String document = Due.documentText();
        if (!document.isEmpty()) {
            everyWord(document.substring(document.indexOf("An object is used"), document.indexOf("## The public face")));
            everyWord(document.substring(document.indexOf("## Terms"), document.indexOf("## Not promised")));
        }
        DUE.end();
    }
}
