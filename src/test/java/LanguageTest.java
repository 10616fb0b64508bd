import java.io.IOException;
import java.lang.reflect.Field;
import java.lang.reflect.Method;
import java.lang.reflect.Modifier;
import java.nio.file.Files;
import java.nio.file.Path;
import java.util.ArrayList;
import java.util.List;
import java.util.Set;
import java.util.TreeSet;
import java.util.regex.Matcher;
import java.util.regex.Pattern;

/** The document's face, and those rules of LANGUAGE.md that can be seen from the class and its text. */
public final class LanguageTest {
    private static final Check CHECK = new Check();
    private static final int LONGEST_METHOD = 60;

    public static void main(String[] args) throws IOException {
        face();
        classesInside();
        String text = Files.readString(Path.of("src/main/java/FortyHouses.java"));
        words(text);
        madeObjects(text);
        methodLengths(text);
        CHECK.end();
    }

    private static String told(Method m) {
        List<String> types = new ArrayList<>();
        for (Class<?> c : m.getParameterTypes()) {
            types.add(c.getSimpleName());
        }
        return m.getReturnType().getSimpleName() + " " + m.getName() + "(" + String.join(", ", types) + ")";
    }

    private static Set<String> toldByDocument() throws IOException {
        Set<String> methods = new TreeSet<>();
        Matcher m = Pattern.compile("    public (int|long) (\\w+)\\(([^)]*)\\);")
            .matcher(Files.readString(Path.of("../shared/DOC.md")));
        while (m.find()) {
            methods.add(m.group(1) + " " + m.group(2) + "(" + m.group(3).replaceAll("(int|long) \\w+", "$1") + ")");
        }
        return methods;
    }

    private static void face() throws IOException {
        Class<?> face = FortyHouses.class;
        Set<String> methods = new TreeSet<>();
        Set<String> open = new TreeSet<>();
        Set<String> hidden = new TreeSet<>();
        for (Method m : face.getDeclaredMethods()) {
            if (Modifier.isPrivate(m.getModifiers())) {
                hidden.add(m.getName());
            } else {
                methods.add(told(m));
                open.add(m.getName());
                CHECK.holds(m + " is public and of the object", m.getModifiers() == Modifier.PUBLIC);
            }
        }
        Set<String> want = toldByDocument();
        CHECK.due("methods of the document", want.size(), 29);
        CHECK.holds("the methods are the document's: " + methods, methods.equals(want));
        hidden.retainAll(open);
        CHECK.holds("no private method has a public one's name: " + hidden, hidden.isEmpty());
        Set<String> constants = new TreeSet<>();
        for (Field f : face.getDeclaredFields()) {
            if (!Modifier.isPrivate(f.getModifiers())) {
                constants.add(f.getName());
            }
            CHECK.holds(f + " is final, if static",
                !Modifier.isStatic(f.getModifiers()) || Modifier.isFinal(f.getModifiers()));
        }
        CHECK.holds("the constants: " + constants, constants.equals(Set.of("BAD", "STATE", "FULL", "NONE", "NO")));
        CHECK.holds("the class is public and final", face.getModifiers() == (Modifier.PUBLIC | Modifier.FINAL));
        CHECK.holds("one constructor", face.getConstructors().length == 1 && face.getDeclaredConstructors().length == 1);
    }

    private static void classesInside() {
        Class<?>[] inside = FortyHouses.class.getDeclaredClasses();
        CHECK.holds("twelve classes at most", inside.length < 12);
        for (Class<?> c : inside) {
            CHECK.holds(c + " is static", Modifier.isStatic(c.getModifiers()));
            CHECK.holds(c + " is not open", (c.getModifiers() & (Modifier.PUBLIC | Modifier.PROTECTED)) == 0);
            int fields = 0;
            for (Field f : c.getDeclaredFields()) {
                boolean isStatic = Modifier.isStatic(f.getModifiers());
                fields += isStatic ? 0 : 1;
                CHECK.holds(f + " is final, if static", !isStatic || Modifier.isFinal(f.getModifiers()));
            }
            CHECK.holds(c + " has twenty fields at most", fields <= 20);
        }
    }

    private static String bare(String text) {
        return text.replaceAll("(?s)/\\*.*?\\*/", "").replaceAll("//[^\n]*", "")
            .replaceAll("\"[^\"\n]*\"", "\"\"").replaceAll("'[^'\n]*'", "' '");
    }

    private static void words(String text) {
        String code = bare(text);
        String[] out = {"throw", "throws", "try", "catch", "synchronized", "assert", "import", "package", "float",
            "double", "equals", "hashCode", "toString", "\\w+Exact", "static \\{", "->", "::", "null"};
        for (String word : out) {
            String pattern = Character.isLetter(word.charAt(0)) || word.charAt(0) == '\\' ? "\\b" + word : word;
            pattern += word.matches(".*\\w") ? "\\b" : "";
            CHECK.holds("no " + word, !Pattern.compile(pattern).matcher(code).find());
        }
        CHECK.holds("signs 1 to 127 alone", text.chars().allMatch(c -> c > 0 && c < 128));
    }

    /** Objects and arrays are made with the object alone, so that no call takes room. */
    private static void madeObjects(String text) {
        int made = 0;
        for (String line : bare(text).split("\n")) {
            if (line.matches(".*\\bnew\\b.*")) {
                made++;
                CHECK.holds("made with the object: " + line,
                    line.matches(" {8}(final \\S+ )?\\w+ = new \\w+(\\[\\w+\\]|\\(\\));"));
            }
        }
        CHECK.holds("something is made", made > 0);
    }

    private static void methodLengths(String text) {
        String[] lines = text.split("\n");
        int start = -1;
        String end = "";
        for (int i = 0; i < lines.length; i++) {
            Matcher m = Pattern.compile("^( {4}| {8})(?!.* class )[^ ].*\\) \\{$").matcher(lines[i]);
            if (start < 0 && m.find()) {
                start = i;
                end = m.group(1) + "}";
            } else if (start >= 0 && lines[i].equals(end)) {
                CHECK.holds("short: " + lines[start], i - start < LONGEST_METHOD);
                start = -1;
            }
        }
    }
}
