import java.io.IOException;
import java.nio.charset.StandardCharsets;
import java.nio.file.Files;
import java.nio.file.Path;
import java.util.ArrayList;
import java.util.List;
import java.util.regex.Matcher;
import java.util.regex.Pattern;

/**
 * Tests of single sentences. Each names its promise ("Promise 2"), or the part of the terms that the
 * promise rests on ("Promise 4, Terms 1"), and quotes the sentence, which must stand there in the document.
 */
final class Edge {
    private static final List<String> wheres = new ArrayList<>();
    private static final List<String> sentences = new ArrayList<>();

    private Edge() {
    }

    static void test(String where, String sentence, Runnable body) {
        Check.about(where + " \"" + sentence + "\": ");
        int before = Check.asked();
        try {
            body.run();
        } catch (RuntimeException e) {
            Check.same("threw " + e, 1, 0);
        }
        Check.same("a test asks something", Check.asked() > before, true);
        Check.about("");
        wheres.add(where);
        sentences.add(sentence);
    }

    /** Each quote must stand where its test says, and each of some promises must have a test. */
    static void finish(String name, String document, int firstPromise, int lastPromise) throws IOException {
        String text = Files.readString(Path.of(document), StandardCharsets.UTF_8);
        for (int i = 0; i < wheres.size(); i++) {
            boolean stands = plain(section(text, wheres.get(i))).contains(plain(sentences.get(i)));
            Check.same(wheres.get(i) + " says \"" + sentences.get(i) + "\"", stands, true);
        }
        for (int promise = firstPromise; promise <= lastPromise; promise++) {
            Check.same("promise " + promise + " has a test", wheres.contains("Promise " + promise), true);
        }
        System.out.println("  " + name + ": tests of " + wheres.size() + " sentences");
        Check.finish(name);
    }

    private static String section(String text, String where) {
        int terms = where.indexOf("Terms ");
        if (terms >= 0) {
            String part = where.substring(terms + 6);
            String start = part.equals("1") ? "## Terms" : "==== " + part + ".";
            String end = part.equals("5") ? "## Promise 1:" : "==== " + (Integer.parseInt(part) + 1) + ".";
            int from = text.indexOf(start, text.indexOf("## Terms"));
            return text.substring(from, text.indexOf(end, from));
        }
        String title = where.startsWith("Promise ") ? where + ":" : where;
        Matcher m = Pattern.compile("(?s)## " + Pattern.quote(title) + "(.*?)(\n## |$)").matcher(text);
        return m.find() ? m.group(1) : "";
    }

    private static String plain(String text) {
        return text.replace("`", "").replaceAll("\\s+", " ");
    }
}
