import java.io.IOException;
import java.lang.reflect.InvocationTargetException;
import java.lang.reflect.Method;
import java.lang.reflect.Modifier;
import java.nio.file.Files;
import java.nio.file.Path;
import java.util.List;
import java.util.regex.Matcher;
import java.util.regex.Pattern;
import java.util.stream.Stream;

/** README.md: its calls answer as it says there; every call of the face and every test is named on it. */
public final class ReadmeTest {
    private static final Pattern FED = Pattern.compile("feed\\(lawn, \"(.*)\"\\);");
    private static final Pattern CALLED = Pattern.compile("lawn\\.(\\w+)\\((.*)\\); +// (-?\\d+|true|false): .+");

    private ReadmeTest() { }

    public static void main(String[] args) throws IOException, ReflectiveOperationException {
        List<String> lines = Files.readAllLines(Path.of("README.md"));
        int calls = 0;
        MownLawn lawn = null;
        for (String line : lines) {
            Matcher fed = FED.matcher(line);
            Matcher called = CALLED.matcher(line);
            if (line.equals("MownLawn lawn = new MownLawn();")) {
                lawn = new MownLawn();
            } else if (fed.matches()) {
                feed(lawn, fed.group(1));
            } else if (called.matches()) {
                calls++;
                Check.same(line, answer(lawn, called.group(1), called.group(2)), called.group(3));
            } else {
                Check.due("a call without its answer: " + line, line.startsWith("lawn."), false);
            }
        }
        Check.due("calls of the example", calls > 15, true);
        names(String.join("\n", lines));
        Check.end();
    }

    /** As it stands on the page. */
    static void feed(MownLawn lawn, String text) {
        int over = (20 - text.length() % 20) % 20;
        String padded = text + " ".repeat(over);
        for (int at = 0; at < padded.length(); at += 20) {
            int[] five = new int[5];
            for (int i = 0; i < 20; i++) {
                five[i / 4] = five[i / 4] << 8 | padded.charAt(at + i);
            }
            lawn.feed(five[0], five[1], five[2], five[3], five[4]);
        }
        lawn.back(over);
    }

    private static String answer(MownLawn lawn, String name, String arguments)
        throws IllegalAccessException, InvocationTargetException {
        String[] words = arguments.isEmpty() ? new String[0] : arguments.split(", ");
        Object[] with = new Object[words.length];
        for (int i = 0; i < words.length; i++) {
            with[i] = words[i].equals("MownLawn.NONE") ? MownLawn.NONE : Integer.parseInt(words[i]);
        }
        for (Method m : MownLawn.class.getMethods()) {
            if (m.getName().equals(name) && m.getParameterCount() == with.length) {
                return String.valueOf(m.invoke(lawn, with));
            }
        }
        return "no such call";
    }

    private static void names(String page) throws IOException {
        for (Method m : MownLawn.class.getDeclaredMethods()) {
            if (Modifier.isPublic(m.getModifiers())) {
                Check.due("README.md names " + m.getName(), page.contains("`" + m.getName() + "`"), true);
            }
        }
        try (Stream<Path> files = Files.list(Path.of("src/test/java"))) {
            for (Path file : files.toList()) {
                String name = file.getFileName().toString().replace(".java", "");
                Check.due("README.md names " + name, !name.endsWith("Test") || page.contains("`" + name + "`"), true);
            }
        }
        String own = Files.readString(Path.of("src/test/java/ReadmeTest.java"));
        int from = page.indexOf("static void feed(");
        String method = page.substring(from, page.indexOf("\n}\n", from)).replaceAll("\\s+", " ");
        Check.due("README.md's feed is the one that is tried here", own.replaceAll("\\s+", " ").contains(method), true);
    }
}
