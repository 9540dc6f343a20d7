import java.io.IOException;
import java.lang.reflect.Constructor;
import java.lang.reflect.Field;
import java.lang.reflect.Method;
import java.lang.reflect.Modifier;
import java.nio.file.Files;
import java.nio.file.Path;
import java.util.ArrayList;
import java.util.List;
import java.util.Set;
import java.util.TreeSet;
import java.util.regex.Matcher;
import java.util.regex.Pattern;

/** The rules of ../shared/LANGUAGE.md that can be seen in the source's text or by reflection; and the document's face. */
public final class LanguageTest {
    private LanguageTest() { }

    public static void main(String[] args) throws IOException {
        String source = Files.readString(Path.of("src/main/java/MownLawn.java"));
        face(Files.readString(Path.of("../shared/DOC.md")), source);
        members();
        source(source);
        Check.end();
    }

    private static void face(String document, String source) {
        Set<String> due = new TreeSet<>();
        Matcher line = Pattern.compile("\n    (public (int|boolean) (\\w+)\\((.*)\\));").matcher(document);
        while (line.find()) {
            Check.due("the source has " + line.group(1), source.contains("\n    " + line.group(1) + " {\n"), true);
            due.add(line.group(2) + ' ' + line.group(3) + ' ' + (line.group(4).isEmpty() ? 0 : line.group(4).split(",").length));
        }
        Check.due("the constant", source.contains("\n    public static final int NONE = -1;\n"), true);
        Set<String> found = new TreeSet<>();
        for (Method m : MownLawn.class.getDeclaredMethods()) {
            if (Modifier.isPublic(m.getModifiers())) {
                found.add(m.getReturnType() + " " + m.getName() + ' ' + m.getParameterCount());
                Check.due(m + " is no static one", Modifier.isStatic(m.getModifiers()), false);
                for (Class<?> type : m.getParameterTypes()) {
                    Check.due(m + " takes ints", type == int.class, true);
                }
            }
        }
        Check.due("the face is the document's: " + found, found.equals(due), true);
        Check.due("35 promises", due.size(), 34);
        Constructor<?>[] made = MownLawn.class.getDeclaredConstructors();
        Check.due("one constructor", made.length, 1);
        Check.due("that is public", Modifier.isPublic(made[0].getModifiers()) && made[0].getParameterCount() == 0, true);
        Check.due("final", Modifier.isFinal(MownLawn.class.getModifiers()), true);
    }

    private static void members() {
        Set<String> names = new TreeSet<>();
        for (Method m : MownLawn.class.getDeclaredMethods()) {
            if (Modifier.isPublic(m.getModifiers())) {
                names.add(m.getName());
            } else {
                Check.due(m + " is private", Modifier.isPrivate(m.getModifiers()), true);
            }
        }
        for (Field f : MownLawn.class.getDeclaredFields()) {
            boolean none = f.getName().equals("NONE");
            Check.due(f + " is private", none ? Modifier.isPublic(f.getModifiers())
                : Modifier.isPrivate(f.getModifiers()), true);
        }
        List<Class<?>> classes = new ArrayList<>(List.of(MownLawn.class.getDeclaredClasses()));
        Check.due("twelve classes at most", classes.size() <= 11, true);
        classes.add(MownLawn.class);
        for (Class<?> one : classes) {
            Check.due(one + " is static", one == MownLawn.class || Modifier.isStatic(one.getModifiers()), true);
            int fields = 0;
            for (Field f : one.getDeclaredFields()) {
                boolean constant = Modifier.isStatic(f.getModifiers());
                fields += constant ? 0 : 1;
                Check.due(f + " is final", !constant || Modifier.isFinal(f.getModifiers()), true);
            }
            Check.due(one + " has twenty fields at most", fields <= 20, true);
            for (Method m : one.getDeclaredMethods()) {
                Check.due(m + " takes seven at most", m.getParameterCount() <= 7, true);
                boolean open = one == MownLawn.class && Modifier.isPublic(m.getModifiers());
                Check.due(m + " bears no public name", open || !names.contains(m.getName()), true);
            }
        }
    }

    private static void source(String whole) {
        Check.due("no sign above 127", whole.chars().allMatch(c -> c < 128), true);
        String text = whole.replaceAll("(?s)/\\*.*?\\*/", " ").replaceAll("\"(\\\\.|[^\"\\\\])*\"", "#")
            .replaceAll("//[^\n]*", " ").replaceAll("'(\\\\.|[^'\\\\])'", "C");
        String[] never = {"throw", "throws", "try", "catch", "finally", "synchronized", "assert", "import", "package",
            "volatile", "native", "float", "double", "Object", "hashCode", "toString", "valueOf", "Thread", "Random",
            "Runtime", "nanoTime", "currentTimeMillis", "getenv", "Exact", "yield", "var"};
        for (String word : never) {
            Check.due("no '" + word + "'", Pattern.compile("\\b\\w*" + word + "\\b").matcher(text)
                .results().filter(r -> r.group().equals(word) || word.equals("Exact")).count(), 0);
        }
        Check.due("no lambda", text.contains("->"), false);
        Check.due("no method reference", text.contains("::"), false);
        Check.due("no text is joined by +", Pattern.compile("#\\s*\\+|\\+\\s*#").matcher(text).find(), false);
        Check.due("no static block", Pattern.compile("static\\s*\\{").matcher(text).find(), false);
        Set<String> library = Set.of("Math.max", "Math.min", "Integer.bitCount", "System.arraycopy");
        Matcher uses = Pattern.compile("\\b(Math|Integer|Long|System|Arrays|String|Character)\\.\\w+").matcher(text);
        while (uses.find()) {
            Check.due("of the library: " + uses.group(), library.contains(uses.group()), true);
        }
        methodsAreShort(whole);
    }

    private static void methodsAreShort(String whole) {
        String[] lines = whole.split("\n");
        for (int i = 0; i < lines.length; i++) {
            Check.due("line " + (i + 1) + " is short", lines[i].length() <= 150, true);
            Matcher m = Pattern.compile("^( {4}| {8})\\S.*\\) \\{$").matcher(lines[i]);
            if (m.matches()) {
                int end = i;
                while (end < lines.length && !lines[end].equals(m.group(1) + "}")) {
                    end++;
                }
                Check.due("lines of " + lines[i].strip(), end - i <= 60, true);
            }
        }
    }
}
