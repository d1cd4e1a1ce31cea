import java.nio.file.DirectoryStream;
import java.nio.file.Files;
import java.nio.file.Path;
import java.util.LinkedHashMap;
import java.util.Map;
import java.util.regex.Matcher;
import java.util.regex.Pattern;

/**
 * Every sentence of the document has a test: the tests name by says(place, words) what they look at. The words must
 * stand in the document at that place, and all the words there together must leave nothing over.
 */
public final class SentencesTest {
    private static final Due DUE = new Due("SentencesTest");
    private static final Path DOCUMENT = Path.of("../shared/DOC.md");
    private static final Path TESTS = Path.of("src/test/java");
    private static final Pattern SAYS = Pattern.compile("\\.says\\(\\s*\"(\\w+)\",\\s*\"([^\"]*)\"\\s*\\)");

    public static void main(String[] args) throws Exception {
        Map<String, String> places = places(Files.readString(DOCUMENT));
        DUE.is("promises, terms, the text block and how an object is used", places.size(), 76 + 9 + 1 + 1);
        Map<String, boolean[]> said = new LinkedHashMap<>();
        places.forEach((place, text) -> said.put(place, new boolean[text.length()]));
        try (DirectoryStream<Path> files = Files.newDirectoryStream(TESTS, "*Test.java")) {
            for (Path file : files) {
                mark(file, places, said);
            }
        }
        places.forEach((place, text) -> {
            String left = left(text, said.get(place));
            DUE.is("at " + place + " no test looks at: " + left, left.isEmpty() ? 1 : 0, 1);
        });
        DUE.close();
    }

    private static Map<String, String> places(String document) {
        Map<String, String> found = new LinkedHashMap<>();
        // ahead of it the class is told in short, behind it stands the face, which RulesTest looks at
        String what = between(document, "## What it is\n", "## The public face");
        found.put("USE", what.substring(what.indexOf("An object is used")).trim());
        String terms = between(document, "## Terms\n", "## Promise 1:");
        Matcher m = Pattern.compile("(?m)^([IVX]+)\\. (.*)$").matcher(terms);
        while (m.find()) {
            found.put(m.group(1), m.group(2).trim());
        }
        found.put("TEXT", between(terms, "```text\n", "```").replaceAll("\\s+", " ").trim());
        m = Pattern.compile("(?m)^## Promise (\\d+): .*\\n\\n`[^`]*`: (.*)$").matcher(document);
        while (m.find()) {
            found.put(m.group(1), m.group(2).trim());
        }
        return found;
    }

    private static String between(String text, String from, String to) {
        int start = text.indexOf(from) + from.length();
        return text.substring(start, text.indexOf(to, start));
    }

    private static void mark(Path file, Map<String, String> places, Map<String, boolean[]> said) throws Exception {
        // a text over two lines is one
        Matcher m = SAYS.matcher(Files.readString(file).replaceAll("\"\\s*\\+\\s*\"", ""));
        while (m.find()) {
            String place = m.group(1);
            String words = m.group(2);
            int at = places.getOrDefault(place, "").indexOf(words);
            DUE.is(file.getFileName() + ": the document says at " + place + ": " + words, at >= 0 ? 1 : 0, 1);
            for (int i = 0; at >= 0 && i < words.length(); i++) {
                said.get(place)[at + i] = true;
            }
        }
    }

    private static String left(String text, boolean[] said) {
        StringBuilder left = new StringBuilder();
        for (int i = 0; i < text.length(); i++) {
            left.append(said[i] ? '\n' : text.charAt(i));
        }
        String words = left.toString().replaceAll("\n+", " .. ");
        return words.matches("[^A-Za-z0-9]*") ? "" : words;
    }
}
