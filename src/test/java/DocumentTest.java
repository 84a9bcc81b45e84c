import java.io.IOException;
import java.lang.reflect.Method;
import java.nio.file.Files;
import java.nio.file.Path;
import java.util.LinkedHashMap;
import java.util.Map;

/**
 * Every sentence that a test names stands in ../shared/DOC.md under its heading, and no word of "Terms" and of the
 * promises there is left that no test names.
 */
public final class DocumentTest {
    private static final Check CHECK = new Check("DocumentTest");
    private static final Path DOCUMENT = Path.of("../shared/DOC.md");
    private static final Class<?>[] TESTS =
        {TermsEdgeTest.class, ColumnEdgeTest.class, TapeEdgeTest.class, BestEdgeTest.class, DayEdgeTest.class};

    public static void main(String[] args) throws IOException {
        if (!Files.exists(DOCUMENT)) {
            System.out.println("DocumentTest: there is no " + DOCUMENT + " here, so no sentence is looked up");
            return;
        }
        Map<String, String> texts = textsByHeading(Files.readString(DOCUMENT));
        Map<String, boolean[]> named = new LinkedHashMap<>();
        texts.forEach((heading, text) -> named.put(heading, new boolean[text.length()]));
        for (Class<?> tests : TESTS) {
            for (Method test : Sentences.of(tests)) {
                Says says = test.getAnnotation(Says.class);
                boolean stands = mark(texts.getOrDefault(says.where(), ""), says.sentence(), named.get(says.where()));
                CHECK.due(test.getName() + " names, under " + says.where() + ": " + says.sentence(), stands, true);
            }
        }
        for (int promise = 0; promise <= 22; promise++) {
            String heading = promise == 0 ? "Terms" : "Promise " + promise;
            CHECK.due("the document has " + heading, texts.containsKey(heading), true);
            String left = unnamed(texts.getOrDefault(heading, ""), named.get(heading));
            CHECK.due("no test names, under " + heading + ": " + left, left.isEmpty(), true);
        }
        CHECK.finish();
    }

    /** The words under each heading, without marks of form, without the signature and the bare number of a chapter. */
    private static Map<String, String> textsByHeading(String document) {
        Map<String, String> texts = new LinkedHashMap<>();
        for (String chapter : document.split("(?m)^## ")) {
            int end = chapter.indexOf('\n');
            if (end > 0) {
                String heading = chapter.substring(0, end).split(":")[0].trim();
                String text = chapter.substring(end).replaceAll("(?m)^```.*$", "").trim()
                    .replaceAll("^`[^`]*`:", "").replaceAll("==== \\d+\\.", "");
                texts.put(heading, text.replace("`", "").replaceAll("\\s+", " ").trim());
            }
        }
        return texts;
    }

    private static boolean mark(String text, String sentence, boolean[] named) {
        int at = text.indexOf(sentence);
        for (int i = at; at >= 0 && i < at + sentence.length(); i++) {
            named[i] = true;
        }
        return at >= 0;
    }

    private static String unnamed(String text, boolean[] named) {
        StringBuilder left = new StringBuilder();
        for (int i = 0; i < text.length(); i++) {
            boolean word = Character.isLetterOrDigit(text.charAt(i));
            left.append(word && !named[i] ? text.charAt(i) : ' ');
        }
        return left.toString().trim().replaceAll("\\s+", " ");
    }
}
