import java.lang.reflect.Method;
import java.lang.reflect.Modifier;
import java.nio.ByteBuffer;
import java.nio.charset.StandardCharsets;
import java.nio.file.DirectoryStream;
import java.nio.file.Files;
import java.nio.file.Path;
import java.util.Arrays;
import java.util.Set;
import java.util.TreeSet;
import java.util.regex.Matcher;
import java.util.regex.Pattern;

/** README.md tells the truth: its calls are made, and its tables name every call and every test. */
public final class ReadmeTest {
    private static final Due DUE = new Due("ReadmeTest");
    private static final Path README = Path.of("README.md");
    private static final Path TESTS = Path.of("src/test/java");
    private static final Pattern CALL = Pattern.compile("(?m)^x\\.(\\w+)\\(([^)]*)\\);\\s*// (-?\\d+)\\b.*$");

    public static void main(String[] args) throws Exception {
        String readme = Files.readString(README);
        feeding(readme);
        example(readme);
        calls(readme);
        tests(readme);
        DUE.close();
    }

    private static void holds(String what, boolean so) {
        DUE.is(what, so ? 1 : 0, 1);
    }

    // as it stands in README.md, word by word
    static void feedText(MoatRanks x, String text) {
        byte[] bytes = text.getBytes(StandardCharsets.ISO_8859_1);
        ByteBuffer fed = ByteBuffer.wrap(Arrays.copyOf(bytes, (bytes.length + 19) / 20 * 20));
        x.end(0);
        while (fed.hasRemaining()) {
            x.feed(fed.getInt(), fed.getInt(), fed.getInt(), fed.getInt(), fed.getInt());
        }
        x.end(bytes.length);
    }

    private static void feeding(String readme) throws Exception {
        String shown = block(readme, "```java\nstatic void feedText");
        String here = Files.readString(TESTS.resolve("ReadmeTest.java"));
        holds("feedText is the one of this test", flat(here).contains(flat(shown)));
        for (String text : new String[] {"", "d", "d".repeat(19), "d".repeat(20), "d".repeat(21), "d".repeat(900)}) {
            MoatRanks x = new MoatRanks();
            feedText(x, "ahead of it");
            feedText(x, text);
            DUE.is("bytes fed", x.count(10), text.length());
        }
    }

    private static void example(String readme) throws Exception {
        MoatRanks x = new MoatRanks();
        feedText(x, block(readme, "```text\n"));
        Matcher m = CALL.matcher(readme);
        int calls = 0;
        while (m.find()) {
            DUE.is(m.group(), answer(x, m.group(1), m.group(2)), Long.parseLong(m.group(3)));
            calls++;
        }
        DUE.is("lines with a call", calls, readme.split("\nx\\.", -1).length - 1);
        holds("there are calls", calls > 30);
    }

    private static long answer(MoatRanks x, String name, String numbers) throws Exception {
        String[] told = numbers.isEmpty() ? new String[0] : numbers.split(", ");
        for (Method method : MoatRanks.class.getDeclaredMethods()) {
            if (method.getName().equals(name) && method.getParameterCount() == told.length) {
                Object[] given = new Object[told.length];
                for (int i = 0; i < told.length; i++) {
                    long number = Long.parseLong(told[i]);
                    given[i] = method.getParameterTypes()[i] == long.class ? (Object) number : (Object) (int) number;
                }
                return ((Number) method.invoke(x, given)).longValue();
            }
        }
        throw new IllegalStateException("README.md has a call that there is not: " + name);
    }

    private static void calls(String readme) {
        Set<String> there = new TreeSet<>();
        for (Method method : MoatRanks.class.getDeclaredMethods()) {
            if (Modifier.isPublic(method.getModifiers())) {
                there.add(method.getName() + " " + method.getParameterCount());
            }
        }
        Set<String> told = new TreeSet<>();
        Matcher m = Pattern.compile("`(\\w+)\\(([^)]*)\\)`").matcher(between(readme, "### The calls", "### Answers"));
        while (m.find()) {
            if (!m.group(1).equals("MoatRanks")) {
                told.add(m.group(1) + " " + (m.group(2).isEmpty() ? 0 : m.group(2).split(",").length));
            }
        }
        holds("the calls " + there + " and those told " + told, there.equals(told));
    }

    private static void tests(String readme) throws Exception {
        Set<String> there = new TreeSet<>();
        try (DirectoryStream<Path> files = Files.newDirectoryStream(TESTS, "*Test.java")) {
            for (Path file : files) {
                there.add(file.getFileName().toString().replace(".java", ""));
            }
        }
        Set<String> told = new TreeSet<>();
        Matcher m = Pattern.compile("(?m)^\\| ([\\w, ]*Test) \\|").matcher(readme);
        while (m.find()) {
            told.addAll(Arrays.asList(m.group(1).split(", ")));
        }
        holds("the tests " + there + " and those told " + told, there.equals(told));
    }

    private static String block(String readme, String start) {
        int at = readme.indexOf(start);
        return between(readme.substring(at), "\n", "```");
    }

    private static String between(String text, String from, String to) {
        int start = text.indexOf(from) + from.length();
        return text.substring(start, text.indexOf(to, start));
    }

    private static String flat(String text) {
        return text.replaceAll("\\s+", " ").trim();
    }
}
