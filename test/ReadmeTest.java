import java.lang.reflect.InvocationTargetException;
import java.lang.reflect.Method;
import java.nio.file.Files;
import java.nio.file.Path;
import java.util.regex.Matcher;
import java.util.regex.Pattern;

/** README.md holds: each line of its examples is run in its order and has the answer that stands behind it. */
public final class ReadmeTest {
    static final Pattern CALL = Pattern.compile("x\\.(\\w+)\\(([-\\d, ]*)\\); +// (?:throws )?(\\S+)(?: \"(.*)\")?");
    static final Pattern TELL = Pattern.compile("tell\\(x, \"([^\"]*)\"\\);");
    static AskingFragments x;
    static int run = 0;

    static void tell(AskingFragments x, String text) {
        x.end(0);
        for (int i = 0; i < text.length(); i += 20) {
            int[] v = new int[5];
            for (int j = 0; j < 20; j++) {
                int sign = i + j < text.length() ? text.charAt(i + j) : 0;
                v[j / 4] = v[j / 4] << 8 | sign;
            }
            x.feed(v[0], v[1], v[2], v[3], v[4]);
        }
        x.end(text.length());
    }

    public static void main(String[] args) throws Exception {
        String readme = Files.readString(Path.of("README.md"));
        String own = Files.readString(Path.of("test/ReadmeTest.java"));
        Matcher blocks = Pattern.compile("(?s)```java\n(.*?)```").matcher(readme);
        while (blocks.find()) {
            String block = blocks.group(1);
            if (block.startsWith("static void tell")) {
                Check.is("README's tell is the one that is used here", own.contains(block.indent(4)), true);
                continue;
            }
            for (String line : block.split("\n")) example(line);
        }
        Check.is("README has examples enough", run > 60, true);
        for (Method m : AskingFragments.class.getDeclaredMethods()) {
            if (!java.lang.reflect.Modifier.isPublic(m.getModifiers())) continue;
            Check.is("README tells of " + m.getName(), Pattern.compile("`" + m.getName() + "\\b").matcher(readme).find(), true);
        }
        Check.close();
    }

    static void example(String line) throws Exception {
        Matcher call = CALL.matcher(line), told = TELL.matcher(line);
        if (line.equals("AskingFragments x = new AskingFragments();")) {
            x = new AskingFragments();
        } else if (told.matches()) {
            tell(x, told.group(1).replace("\\n", "\n"));
        } else if (call.matches()) {
            Check.same(line, answer(call.group(1), call.group(2)), call.group(3));
            if (call.group(4) != null) Check.same(line, spelled(), call.group(4));
            run++;
        } else {
            Check.report("README has a line that can't be run: " + line);
        }
    }

    static String answer(String name, String numbers) throws Exception {
        String[] parts = numbers.isBlank() ? new String[0] : numbers.split(", ");
        Object[] values = new Object[parts.length];
        for (int i = 0; i < parts.length; i++) values[i] = Integer.valueOf(parts[i]);
        for (Method m : AskingFragments.class.getDeclaredMethods()) {
            if (!m.getName().equals(name)) continue;
            try {
                return String.valueOf(m.invoke(x, values));
            } catch (InvocationTargetException e) {
                return e.getCause().getClass().getSimpleName();
            }
        }
        return "no call " + name;
    }

    static String spelled() {
        StringBuilder b = new StringBuilder();
        for (int i = 0; x.byteAt(i) != AskingFragments.NONE; i++) b.append((char) x.byteAt(i));
        return b.toString();
    }
}
