import java.nio.charset.StandardCharsets;
import java.nio.file.Files;
import java.nio.file.Path;
import java.util.Arrays;

/**
 * Each sentence of the document has a test of its own, which names it by its words. When the document is told, all
 * its promises and Terms must be named so, and nothing else.
 */
public final class Sentences extends Bench {
    private static final int PROMISES = 33;

    /** The part of the document that a promise is told in (0: the Terms), blanks made one, without its face. */
    private static String part(String document, int promise) {
        String head = promise == 0 ? "\n## Terms\n" : "\n## Promise " + promise + ":";
        int start = document.indexOf(head);
        if (start < 0) return "";
        start = document.indexOf('\n', start + 1);
        int stop = document.indexOf("\n## ", start);
        String text = document.substring(start, stop < 0 ? document.length() : stop);
        text = text.replaceAll("```\\w*", " ").replaceAll("==== \\w+\\.", " ").replaceAll("\\s+", " ").trim();
        return promise == 0 ? text : text.replaceFirst("^`[^`]*`: ", "");
    }

    private static void nameAll(String document, int promise) {
        char[] left = part(document, promise).toCharArray();
        if (left.length == 0) fails("promise " + promise + " does not stand in the document");
        for (Sentence s : sentences) {
            if (s.promise != promise) continue;
            int at = new String(left).indexOf(s.words);
            if (at < 0) fails("these words do not stand in the document, or are named twice: " + s.words);
            else Arrays.fill(left, at, at + s.words.length(), '\n');
        }
        for (String unnamed : new String(left).split("\n+")) {
            if (!unnamed.isBlank()) fails("promise " + promise + ": no test names '" + unnamed.trim() + "'");
        }
    }

    public static void main(String[] args) throws Exception {
        TextSentences.all();
        HourSentences.all();
        VoteSentences.all();
        WindSentences.all();
        DrawSentences.all();
        promise(0);
        for (Sentence s : sentences) if (s.looks == 0) fails("nothing is looked at for: " + s.words);
        if (args.length > 0) {
            String document = Files.readString(Path.of(args[0]), StandardCharsets.UTF_8);
            for (int promise = 0; promise <= PROMISES; promise++) nameAll(document, promise);
        }
        end("Sentences (" + sentences.size() + ")");
    }
}
