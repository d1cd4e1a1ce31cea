import java.lang.reflect.Constructor;
import java.lang.reflect.Field;
import java.lang.reflect.Method;
import java.lang.reflect.Modifier;
import java.nio.file.Files;
import java.nio.file.Path;
import java.util.ArrayList;
import java.util.List;
import java.util.Set;
import java.util.TreeSet;
import java.util.regex.Matcher;
import java.util.regex.Pattern;

/** The face is the document's, and the source keeps to those rules of LANGUAGE.md that can be looked up in it. */
public final class RulesTest {
    private static final Due DUE = new Due("RulesTest");
    private static final Path SOURCE = Path.of("src/main/java/MoatRanks.java");
    private static final Path DOCUMENT = Path.of("../shared/DOC.md");

    public static void main(String[] args) throws Exception {
        face();
        String bare = bare(Files.readString(SOURCE));
        words(bare);
        library(bare);
        shapes();
        lengths(bare);
        DUE.close();
    }

    private static void holds(String what, boolean so) {
        DUE.is(what, so ? 1 : 0, 1);
    }

    private static void face() throws Exception {
        Set<String> due = new TreeSet<>();
        Matcher m = Pattern.compile("public (int|long) (\\w+)\\(([^)]*)\\);").matcher(Files.readString(DOCUMENT));
        while (m.find()) {
            due.add(m.group(1) + " " + m.group(2) + "(" + m.group(3).replaceAll(" \\w+(,|$)", "$1") + ")");
        }
        DUE.is("methods of the document's face", due.size(), 75);
        Set<String> names = new TreeSet<>();
        Set<String> there = new TreeSet<>();
        for (Method method : MoatRanks.class.getDeclaredMethods()) {
            if (Modifier.isPrivate(method.getModifiers())) {
                continue;
            }
            List<String> types = new ArrayList<>();
            for (Class<?> type : method.getParameterTypes()) {
                types.add(type.getName());
            }
            names.add(method.getName());
            there.add(method.getReturnType() + " " + method.getName() + "(" + String.join(", ", types) + ")");
            holds("public, of an object: " + method, method.getModifiers() == Modifier.PUBLIC);
        }
        holds("the document's methods: " + due + there, due.equals(there));
        holds("final", MoatRanks.class.getModifiers() == (Modifier.PUBLIC | Modifier.FINAL));
        DUE.is("constructors", MoatRanks.class.getDeclaredConstructors().length, 1);
        for (Constructor<?> c : MoatRanks.class.getConstructors()) {
            DUE.is("its parameters", c.getParameterCount(), 0);
        }
        for (Field f : MoatRanks.class.getDeclaredFields()) {
            holds("private, or NONE: " + f, Modifier.isPrivate(f.getModifiers()) || f.getName().equals("NONE"));
        }
        for (Class<?> c : MoatRanks.class.getDeclaredClasses()) {
            for (Method method : c.getDeclaredMethods()) {
                holds("no other method bears a public one's name: " + method, !names.contains(method.getName()));
            }
        }
        for (Method method : MoatRanks.class.getDeclaredMethods()) {
            boolean isPrivate = Modifier.isPrivate(method.getModifiers());
            holds("no private method bears a public one's name: " + method, !isPrivate || !names.contains(method.getName()));
        }
    }

    private static void shapes() {
        List<Class<?>> all = new ArrayList<>(List.of(MoatRanks.class.getDeclaredClasses()));
        for (Class<?> c : all) {
            holds("static: " + c, Modifier.isStatic(c.getModifiers()) && !Modifier.isPublic(c.getModifiers()));
        }
        all.add(MoatRanks.class);
        holds("at most twelve classes", all.size() <= 12);
        for (Class<?> c : all) {
            int fields = 0;
            for (Field f : c.getDeclaredFields()) {
                if (Modifier.isStatic(f.getModifiers())) {
                    holds("static fields are final: " + f, Modifier.isFinal(f.getModifiers()));
                } else {
                    fields++;
                }
            }
            holds("at most twenty fields: " + c, fields <= 20);
            for (Method method : c.getDeclaredMethods()) {
                holds("at most seven parameters: " + method, method.getParameterCount() <= 7);
            }
        }
    }

    /** The source without comments, and with empty texts and signs. */
    private static String bare(String source) {
        for (char c : source.toCharArray()) {
            if (c > 126) {
                holds("plain signs", false);
            }
        }
        return source.replaceAll("(?s)/\\*.*?\\*/", " ").replaceAll("//[^\n]*", " ").replaceAll("\"[^\"\n]*\"", "\"\"")
                .replaceAll("'(\\\\.|[^'])'", "' '");
    }

    private static void words(String bare) {
        for (String word : List.of("throw", "throws", "try", "catch", "finally", "synchronized", "assert", "package", "yield", "var", "equals",
                "hashCode", "toString", "native", "volatile", "Object", "Thread", "Random", "getClass", "double", "float", "record", "enum")) {
            holds("no " + word, !Pattern.compile("\\b" + word + "\\b").matcher(bare).find());
        }
        for (String sign : List.of("->", "::", "@", "static {", "while (true)", "for (;;)")) {
            holds("no " + sign, !bare.contains(sign));
        }
        Matcher m = Pattern.compile("import ([^;]+);").matcher(bare);
        while (m.find()) {
            holds("an import of the rules: " + m.group(1), Set.of("java.util.Arrays", "java.util.ArrayList", "java.util.List").contains(m.group(1)));
        }
    }

    private static void library(String bare) {
        Set<String> allowed = Set.of("Math.min", "Math.max", "Integer.bitCount", "System.arraycopy", "Arrays.fill");
        Matcher m = Pattern.compile("\\b(Math|Integer|Long|System|Arrays|String|StringBuilder|List|ArrayList)\\.(\\w+)").matcher(bare);
        while (m.find()) {
            if (m.group().startsWith("util.") || bare.startsWith("java.util.", Math.max(0, m.start() - 10))) {
                continue;
            }
            holds("of the library: " + m.group(), allowed.contains(m.group()));
        }
        // objects and rows are made by constructors and field initialisers alone, never by a call
        m = Pattern.compile("(?m)^.*\\bnew\\b.*$").matcher(bare);
        while (m.find()) {
            String line = m.group().trim();
            holds("made once: " + line, line.startsWith("private ") || line.startsWith("images[k] =") || line.startsWith("rows[slot] ="));
        }
    }

    private static void lengths(String bare) {
        int start = 0;
        String[] lines = bare.split("\n");
        for (int i = 0; i < lines.length; i++) {
            String line = lines[i];
            if (line.matches("\\s+(public|private)[^;=]*\\)\\s*\\{\\s*")) {
                start = i;
            }
            if (line.matches("    (    )?\\}")) {
                holds("a short method: " + lines[start].trim(), start == 0 || i - start < 60 || line.equals("    }"));
            }
        }
    }
}
