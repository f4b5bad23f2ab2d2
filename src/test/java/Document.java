import java.io.IOException;
import java.io.UncheckedIOException;
import java.nio.file.Files;
import java.nio.file.Path;
import java.util.LinkedHashMap;
import java.util.Map;
import java.util.regex.Matcher;
import java.util.regex.Pattern;

/** The document's words: a test names the ones that it is of, and none of them may be left without a test. */
final class Document {
    private static final Map<String, String> PARTS = new LinkedHashMap<>();
    private static final Map<String, boolean[]> NAMED = new LinkedHashMap<>();
    private static String part = "";
    private static String words = "";
    private static int answersBefore;

    private Document() {
    }

    /** What it is, the constants, the terms I to IV, and the promises by their numbers. */
    static void open() {
        String doc;
        try {
            doc = Files.readString(Path.of("../shared/DOC.md"));
        } catch (IOException e) {
            throw new UncheckedIOException(e);
        }
        gather(Pattern.compile("(?ms)^## (What it is)\\n(.*?)(?=^## )").matcher(doc));
        gather(Pattern.compile("(?m)^(The constants): (.*)$").matcher(doc));
        String terms = doc.substring(doc.indexOf("## Terms"), doc.indexOf("The constants:"));
        gather(Pattern.compile("(?ms)^(I|II|III|IV)\\. (.*?)(?=^(?:I|II|III|IV)\\. |\\z)").matcher(terms));
        gather(Pattern.compile("(?ms)^## Promise (\\d+): \\w[\\w ]*\\n\\n`[^`]*`: (.*?)(?=^## )").matcher(doc));
        Check.due("parts of the document", PARTS.size(), 2 + 4 + 54);
    }

    private static void gather(Matcher matcher) {
        while (matcher.find()) {
            String text = matcher.group(2).replaceAll("```(text)?", " ").replaceAll("\\s+", " ").strip();
            PARTS.put(matcher.group(1), text);
            NAMED.put(matcher.group(1), new boolean[text.length()]);
        }
    }

    /** The answers that are compared from here on are of what stands ahead of the terms. */
    static void beginning(String name, String said) {
        of(name, said);
    }

    /** The answers that are compared from here on are of a term, I to IV. */
    static void term(String name, String said) {
        of(name, said);
    }

    /** The answers that are compared from here on are of a promise. */
    static void promise(int number, String said) {
        of(String.valueOf(number), said);
    }

    private static void of(String name, String said) {
        close();
        part = name;
        words = said;
        Check.about(name + " \"" + said + "\": ");
        String text = PARTS.getOrDefault(name, "");
        boolean found = false;
        for (int at = text.indexOf(said); at >= 0; at = text.indexOf(said, at + 1)) {
            found = true;
            for (int i = at; i < at + said.length(); i++) {
                NAMED.get(name)[i] = true;
            }
        }
        Check.due("these words stand in the document", found, true);
        answersBefore = Check.done();
    }

    private static void close() {
        if (!part.isEmpty()) {
            Check.due("words with a test", !words.isBlank() && Check.done() > answersBefore, true);
        }
    }

    /** Each letter and digit of the parts must have been named by a test. */
    static void end() {
        close();
        Check.about("");
        for (Map.Entry<String, String> entry : PARTS.entrySet()) {
            StringBuilder left = new StringBuilder();
            String text = entry.getValue();
            for (int i = 0; i < text.length(); i++) {
                left.append(NAMED.get(entry.getKey())[i] ? '_' : text.charAt(i));
            }
            boolean all = !Pattern.compile("[A-Za-z0-9]").matcher(left).find();
            Check.due("words of " + entry.getKey() + " without a test: " + left, all, true);
        }
    }
}
