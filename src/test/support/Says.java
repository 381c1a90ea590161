import java.io.IOException;
import java.io.UncheckedIOException;
import java.nio.file.Files;
import java.nio.file.Path;
import java.util.Map;

/**
 * A sentence of DOC.md that a test holds, by the number of its promise or the part of the Terms. It must
 * stand there word for word, so that a test names no sentence that the document does not say.
 */
final class Says {
    private static final String DOC = read();

    private final String name;

    private Says(String where, String part, String sentence) {
        name = where + " '" + sentence + "': ";
        if (!part.contains(plain(sentence))) {
            Check.due(name + "stands in DOC.md", true, false);
        }
    }

    static Says promise(int n, String sentence) {
        return new Says("promise " + n, between("## Promise " + n + ":", "## "), sentence);
    }

    /** Of the Terms' parts I, II, III, of what stands ahead of these, or of the constants behind them. */
    static Says terms(String part, String sentence) {
        return new Says("terms " + part, between(START.get(part), END.get(part)), sentence);
    }

    /** The parts of the document that are no promises, each with where it begins and ends. */
    static final Map<String, String> START = Map.of("what", "## What it is", "face", "## The public face",
        "overview", "## Terms", "I", "I. A TOWN", "II", "II. It is", "III", "III. AHEAD", "constants", "The constants:");
    static final Map<String, String> END = Map.of("what", "## The public face", "face", "## Terms",
        "overview", "I. A TOWN", "I", "II. It is", "II", "III. AHEAD", "III", "The constants:", "constants", "## Promise 1:");

    private static String between(String start, String end) {
        int from = DOC.indexOf(start);
        int till = DOC.indexOf(end, from + start.length());
        return DOC.substring(from, till < 0 ? DOC.length() : till);
    }

    private static String plain(String text) {
        return text.replaceAll("\\s+", " ");
    }

    private static String read() {
        try {
            return plain(Files.readString(Path.of("../shared/DOC.md")));
        } catch (IOException e) {
            throw new UncheckedIOException(e);
        }
    }

    void due(String call, long want, long got) {
        Check.due(name + call, want, got);
    }

    void due(String call, boolean want, boolean got) {
        Check.due(name + call, want, got);
    }

    /** What a text is refused for. */
    void faulty(String text, int fault, int place) {
        StoneRaised x = new StoneRaised();
        due("town() of " + text, fault == 0, Check.town(x, text) >= 0);
        due("fault(0) of " + text, fault, x.fault(0));
        due("fault(1) of " + text, place, x.fault(1));
    }

    void good(String text) {
        faulty(text, 0, -1);
    }
}
