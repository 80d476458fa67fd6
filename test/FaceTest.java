import java.lang.reflect.Constructor;
import java.lang.reflect.Field;
import java.lang.reflect.Method;
import java.lang.reflect.Modifier;
import java.nio.file.Files;
import java.nio.file.Path;
import java.util.ArrayList;
import java.util.HashSet;
import java.util.List;
import java.util.Set;
import java.util.TreeSet;
import java.util.regex.Matcher;
import java.util.regex.Pattern;

/** The face as the document tells it, and those rules of LANGUAGE.md that a short look can tell. */
public final class FaceTest {
    static final String FACE = "feed(int,int,int,int,int)int end(int)boolean net()int rule()int fault(int)int "
        + "node(int,int)int! edge(int,int)int! letter(int,int)int! onWay(int)int waits(int,int,int)int wake(int)int "
        + "take(int)int rounds(int)int steps(int)int choice()int weigh(int,int)int again()int undo()int now(int)int "
        + "sent(int)int limit()int fragment(int,int)int! least(int)int heaviest(int,int)int slack(int)int next()int "
        + "nextBy(int)int until()int starts(int)int starter()int cores(int,int,int)int drawn(int,int)int spell(int)int "
        + "byteAt(int)int image(int)boolean restore(int)boolean count(int)int";

    public static void main(String[] args) throws Exception {
        Class<?> c = AskingFragments.class;
        Check.is("public and final", Modifier.isPublic(c.getModifiers()) && Modifier.isFinal(c.getModifiers()), true);
        face(c);
        List<Class<?>> inside = new ArrayList<>(List.of(c.getDeclaredClasses()));
        Check.is("twelve classes at most", inside.size() < 12, true);
        inside.add(c);
        for (Class<?> k : inside) members(k);
        source(Files.readString(Path.of("src/main/java/AskingFragments.java")));
        Check.close();
    }

    static void face(Class<?> c) {
        Set<String> got = new TreeSet<>();
        for (Method m : c.getDeclaredMethods()) {
            if (Modifier.isPrivate(m.getModifiers()) || m.isSynthetic()) continue;
            Check.is(m + " is public, not static", m.getModifiers() == Modifier.PUBLIC, true);
            StringBuilder b = new StringBuilder(m.getName()).append('(');
            for (Class<?> p : m.getParameterTypes()) b.append(b.charAt(b.length() - 1) == '(' ? "" : ",").append(p.getName());
            b.append(')').append(m.getReturnType().getName());
            if (List.of(m.getExceptionTypes()).contains(java.util.NoSuchElementException.class)) b.append('!');
            got.add(b.toString());
        }
        Set<String> want = new TreeSet<>(List.of(FACE.split(" ")));
        if (!got.equals(want)) System.out.println("the face is " + got + ", due is " + want);
        Check.is("the face", got.equals(want), true);
        Constructor<?>[] made = c.getDeclaredConstructors();
        Check.is("one constructor", made.length == 1 && made[0].getModifiers() == Modifier.PUBLIC && made[0].getParameterCount() == 0, true);
        for (Field f : c.getDeclaredFields()) {
            Check.is(f + " is private, or NONE", Modifier.isPrivate(f.getModifiers()) || f.getName().equals("NONE"), true);
        }
    }

    static void members(Class<?> k) {
        Set<String> open = new HashSet<>();
        for (Method m : AskingFragments.class.getDeclaredMethods()) if (Modifier.isPublic(m.getModifiers())) open.add(m.getName());
        for (Method m : k.getDeclaredMethods()) {
            Check.is(m + " bears no name of a public one", k != AskingFragments.class && open.contains(m.getName())
                || Modifier.isPrivate(m.getModifiers()) && open.contains(m.getName()), false);
            Check.is(m + " has at most seven parameters", m.getParameterCount() <= 7, true);
        }
        int fields = 0;
        for (Field f : k.getDeclaredFields()) {
            if (!Modifier.isStatic(f.getModifiers())) fields++;
            else Check.is(f + " is final", Modifier.isFinal(f.getModifiers()), true);
        }
        Check.is(k + " has at most twenty fields", fields <= 20, true);
    }

    static void source(String text) {
        String code = text.replaceAll("(?s)/\\*.*?\\*/", "").replaceAll("//[^\n]*", "");
        String[] never = {"catch", "try", "finally", "assert", "synchronized", "->", "::", "Exact", "hashCode", "toString", "package"};
        for (String word : never) Check.is("the code has " + word, Pattern.compile("(?<!\\w)" + word + "(?!\\w)").matcher(code).find(), false);
        Check.is("a text is joined by +", Pattern.compile("\"\\s*\\+|\\+\\s*\"").matcher(code).find(), false);
        Matcher imports = Pattern.compile("import ([\\w.]+);").matcher(code);
        while (imports.find()) Check.is("imports " + imports.group(1), imports.group(1).equals("java.util.NoSuchElementException"), true);
        Matcher library = Pattern.compile("\\b(Math|System|Integer|Long|Arrays)\\.(\\w+)").matcher(code);
        Set<String> allowed = Set.of("Math.min", "Math.max", "System.arraycopy", "Integer.MAX_VALUE", "Integer.MIN_VALUE");
        while (library.find()) Check.is("uses " + library.group(), allowed.contains(library.group()), true);
        Matcher thrown = Pattern.compile("throw ([^;]*);").matcher(code);
        while (thrown.find()) Check.is("throws " + thrown.group(1), thrown.group(1).equals("new NoSuchElementException()"), true);
        int start = 0, line = 0;
        for (String row : code.split("\n")) {
            line++;
            if (row.matches("( {4}| {8})\\S.*\\) (throws \\w+ )?\\{")) start = line;
            if (row.matches("( {4}| {8})\\}")) Check.is("a method of at most sixty lines ends in line " + line, line - start < 60, true);
        }
    }
}
