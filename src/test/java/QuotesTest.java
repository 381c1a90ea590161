import java.io.IOException;
import java.nio.file.DirectoryStream;
import java.nio.file.Files;
import java.nio.file.Path;
import java.util.ArrayList;
import java.util.HashMap;
import java.util.List;
import java.util.Map;
import java.util.regex.Matcher;
import java.util.regex.Pattern;

/** Whether the tests name every sentence of the document, from its first line to its last promise. */
public final class QuotesTest {
    private static final Pattern QUOTE = Pattern.compile(
        "Says\\.(?:promise|terms)\\(\"?(\\w+)\"?,\\s*((?:\"(?:[^\"\\\\]|\\\\.)*\"\\s*\\+?\\s*)+)\\)");
    private static final Pattern TEXT = Pattern.compile("\"((?:[^\"\\\\]|\\\\.)*)\"");

    public static void main(String[] args) throws IOException {
        String doc = Files.readString(Path.of("../shared/DOC.md")).replaceAll("```(text|java)?", "").replaceAll("\\s+", " ");
        Map<String, List<String>> quotes = quotes();
        for (int n = 1; n <= 34; n++) {
            int from = doc.indexOf("`: ", doc.indexOf("## Promise " + n + ":")) + 3;
            named("promise " + n, doc.substring(from, doc.indexOf("##", from)), quotes.getOrDefault("" + n, List.of()));
        }
        for (String key : Says.START.keySet()) {
            int from = doc.indexOf(Says.START.get(key));
            String part = doc.substring(from, doc.indexOf(Says.END.get(key), from));
            String titles = part.replaceAll("^(## (What it is|The public face|Terms)|I+\\.|The constants:) ", "");
            named("terms " + key, titles, quotes.getOrDefault(key, List.of()));
        }
        Check.finish();
    }

    private static Map<String, List<String>> quotes() throws IOException {
        Map<String, List<String>> quotes = new HashMap<>();
        try (DirectoryStream<Path> files = Files.newDirectoryStream(Path.of("src/test/java"), "*.java")) {
            for (Path file : files) {
                Matcher quote = QUOTE.matcher(Files.readString(file));
                while (quote.find()) {
                    StringBuilder whole = new StringBuilder();
                    Matcher text = TEXT.matcher(quote.group(2));
                    while (text.find()) {
                        whole.append(text.group(1));
                    }
                    quotes.computeIfAbsent(quote.group(1), key -> new ArrayList<>()).add(whole.toString());
                }
            }
        }
        return quotes;
    }

    /** What no test names of a part of the document may be signs and blanks alone. */
    private static void named(String where, String part, List<String> quotes) {
        char[] left = part.toCharArray();
        for (String quote : quotes) {
            for (int at = part.indexOf(quote); at >= 0; at = part.indexOf(quote, at + 1)) {
                java.util.Arrays.fill(left, at, at + quote.length(), ' ');
            }
        }
        String rest = new String(left).replaceAll("[\\s.,;:()]+", " ").trim();
        Check.due(where + ": letters that no test names, '" + rest + "'", 0, rest.length());
    }
}
